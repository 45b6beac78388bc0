-- RodBoard$Clerk.hasCopy()Z
theorem uX1_hasCopy_X1 : ∀ w ∈ wsX10, w ∈ wsX1_hasCopy := fun _ h => List.mem_cons_of_mem _ (List.mem_append_left _ (List.mem_append_right _ h))
theorem mX1_hasCopy_1 : Cond.fieldLink RX1 12 "RodBoard$Clerk" "course" "LRodBoard$Course;" ∈ wsX1_hasCopy := List.mem_of_getElem? (i := 1) rfl
def fX1_hasCopy (s_course_boards : Int32) : Option ((Int32)) := Option.bind (fX3_size s_course_boards) (fun r_1 => if (0 : Int32) < r_1 then some (1 : Int32) else some (0 : Int32))
set_option maxHeartbeats 4000000 in
set_option maxRecDepth 100000 in
theorem kX1_hasCopy {l : Launch} (h0 : Nat) (a_s_course : Nat) (a_s_course_cells : Nat) (a_s_course_notes : Nat) (s_course_boards : Int32) (s_course_cells : Nat → Int64) (s_course_notes : Nat → Int32) (r : Int32) (hm : fX1_hasCopy s_course_boards = some r) : CtI l yX1_hasCopy wsX1_hasCopy ({ frames := 1, cells := 0, slots := 0, locals := 20 } : Room) [.ref h0] [(h0, eO 1 [.ref a_s_course]), (a_s_course, eO 3 [.ref a_s_course_cells, .ref a_s_course_notes, .int s_course_boards]), (a_s_course_cells, eJ 392 s_course_cells), (a_s_course_notes, eI 288 s_course_notes)] r [(h0, eO 1 [.ref a_s_course]), (a_s_course, eO 3 [.ref a_s_course_cells, .ref a_s_course_notes, .int s_course_boards]), (a_s_course_cells, eJ 392 s_course_cells), (a_s_course_notes, eI 288 s_course_notes)] := by
  refine CtI_of (cc := cX1_hasCopy) (maxL := 1) (ty := .boolean) (own := RX1) rfl (by decide) rfl (lv0 := [(0, .ref h0)]) rfl (Nat.le_of_ble_eq_true rfl) (fun Γ hL C hR => ?_)
  subst hL
  unfold fX1_hasCopy at hm
  refine V_aload_n C 0 dX1_hasCopy_0 rfl rfl ?_
  refine V_get C uX1_hasCopy_X1 0 0 rfl rfl (by decide) mX1_hasCopy_1 rfl dX1_hasCopy_1 ?_
  obtain ⟨r_1, hc_2, hm⟩ := bnd hm
  refine V_callVI C (As := []) (wr := [(h0, eO 1 [.ref a_s_course])]) (ws2 := [(h0, eO 1 [.ref a_s_course]), (a_s_course, eO 3 [.ref a_s_course_cells, .ref a_s_course_notes, .int s_course_boards]), (a_s_course_cells, eJ 392 s_course_cells), (a_s_course_notes, eI 288 s_course_notes)]) (kX3_size a_s_course a_s_course_cells a_s_course_notes s_course_boards s_course_cells s_course_notes r_1 hc_2) gX1_hasCopy_X3_size rfl ⟨rfl, rfl⟩ hdX3_size ⟨Nat.le_of_ble_eq_true rfl, Nat.le_of_ble_eq_true rfl⟩ ⟨Nat.zero_le _, Nat.zero_le _⟩ 0 rfl rfl [1, 2, 3] [0] [0, 1, 2, 3] rfl rfl ⟨rfl, rfl, rfl⟩ (by decide) rfl rfl (Nat.le_of_ble_eq_true rfl) dX1_hasCopy_4 ?_
  refine V_if_le C 14 dX1_hasCopy_7 (by decide) (fun c_3 => ?_) (fun c_3 => ?_)
  · have hm := ite_t c_3 hm
    refine V_iconst C (v := (1 : Int32)) dX1_hasCopy_10 (by decide) ?_
    refine V_goto C 15 dX1_hasCopy_11 (by decide) ?_
    cases hm
    exact hR _ _ rfl dX1_hasCopy_15
  · have hm := ite_f c_3 hm
    refine V_iconst C (v := (0 : Int32)) dX1_hasCopy_14 (by decide) ?_
    cases hm
    exact hR _ _ rfl dX1_hasCopy_15
theorem hdX1_hasCopy : yX1_hasCopy.cls = RX1 ∧ yX1_hasCopy.cls ≠ "java/lang/invoke/MethodHandle" ∧ yX1_hasCopy.cls ≠ "java/lang/invoke/VarHandle" ∧ (parseMethodDescriptor yX1_hasCopy.desc).map (fun d => d.parameters.length) = some 0 := by decide +kernel
-- RodBoard$Clerk.forget()V
theorem uX1_forget_X1 : ∀ w ∈ wsX10, w ∈ wsX1_forget := fun _ h => List.mem_cons_of_mem _ (List.mem_append_left _ (List.mem_append_right _ h))
theorem mX1_forget_1 : Cond.fieldLink RX1 12 "RodBoard$Clerk" "course" "LRodBoard$Course;" ∈ wsX1_forget := List.mem_of_getElem? (i := 1) rfl
def fX1_forget (s_course_boards : Int32) : Option ((Int32)) := Option.bind (fX3_forget s_course_boards) (fun w_1 => some w_1)
set_option maxHeartbeats 4000000 in
set_option maxRecDepth 100000 in
theorem kX1_forget {l : Launch} (h0 : Nat) (a_s_course : Nat) (a_s_course_cells : Nat) (a_s_course_notes : Nat) (s_course_boards : Int32) (s_course_cells : Nat → Int64) (s_course_notes : Nat → Int32) (o_s_course_boards : Int32) (hm : fX1_forget s_course_boards = some o_s_course_boards) : CtV l yX1_forget wsX1_forget ({ frames := 1, cells := 0, slots := 0, locals := 20 } : Room) [.ref h0] [(h0, eO 1 [.ref a_s_course]), (a_s_course, eO 3 [.ref a_s_course_cells, .ref a_s_course_notes, .int s_course_boards]), (a_s_course_cells, eJ 392 s_course_cells), (a_s_course_notes, eI 288 s_course_notes)] [(h0, eO 1 [.ref a_s_course]), (a_s_course, eO 3 [.ref a_s_course_cells, .ref a_s_course_notes, .int o_s_course_boards]), (a_s_course_cells, eJ 392 s_course_cells), (a_s_course_notes, eI 288 s_course_notes)] := by
  refine CtV_of (cc := cX1_forget) (maxL := 1) (own := RX1) rfl (by decide) rfl (lv0 := [(0, .ref h0)]) rfl (Nat.le_of_ble_eq_true rfl) (fun Γ hL C hR => ?_)
  subst hL
  unfold fX1_forget at hm
  refine V_aload_n C 0 dX1_forget_0 rfl rfl ?_
  refine V_get C uX1_forget_X1 0 0 rfl rfl (by decide) mX1_forget_1 rfl dX1_forget_1 ?_
  obtain ⟨w_1, hc_2, hm⟩ := bnd hm
  refine V_callVV C (As := []) (wr := [(h0, eO 1 [.ref a_s_course])]) (ws2 := [(h0, eO 1 [.ref a_s_course]), (a_s_course, eO 3 [.ref a_s_course_cells, .ref a_s_course_notes, .int w_1]), (a_s_course_cells, eJ 392 s_course_cells), (a_s_course_notes, eI 288 s_course_notes)]) (kX3_forget a_s_course a_s_course_cells a_s_course_notes s_course_boards s_course_cells s_course_notes w_1 hc_2) gX1_forget_X3_forget rfl ⟨rfl, rfl⟩ hdX3_forget ⟨Nat.le_of_ble_eq_true rfl, Nat.le_of_ble_eq_true rfl⟩ ⟨Nat.zero_le _, Nat.zero_le _⟩ 0 rfl rfl [1, 2, 3] [0] [0, 1, 2, 3] rfl rfl ⟨rfl, rfl, rfl⟩ (by decide) rfl rfl (Nat.le_of_ble_eq_true rfl) dX1_forget_4 ?_
  cases hm
  exact hR _ _ dX1_forget_7
theorem hdX1_forget : yX1_forget.cls = RX1 ∧ yX1_forget.cls ≠ "java/lang/invoke/MethodHandle" ∧ yX1_forget.cls ≠ "java/lang/invoke/VarHandle" ∧ (parseMethodDescriptor yX1_forget.desc).map (fun d => d.parameters.length) = some 0 := by decide +kernel
-- RodBoard$Clerk.copyFrom(LRodBoard$Course;)V
theorem uX1_copyFrom_X1 : ∀ w ∈ wsX10, w ∈ wsX1_copyFrom := fun _ h => List.mem_cons_of_mem _ (List.mem_append_left _ (List.mem_append_right _ h))
theorem mX1_copyFrom_1 : Cond.fieldLink RX1 12 "RodBoard$Clerk" "course" "LRodBoard$Course;" ∈ wsX1_copyFrom := List.mem_of_getElem? (i := 1) rfl
def fX1_copyFrom (s_course_boards : Int32) (s_course_cells : Nat → Int64) (s_course_notes : Nat → Int32) (p0_boards : Int32) (p0_cells : Nat → Int64) (p0_notes : Nat → Int32) : Option ((Int32) × (Nat → Int64) × (Nat → Int32)) := bn3 (fX3_takeFrom s_course_boards s_course_cells s_course_notes p0_boards p0_cells p0_notes) (fun w_1 w_2 w_3 => some (w_1, w_2, w_3))
set_option maxHeartbeats 4000000 in
set_option maxRecDepth 100000 in
theorem kX1_copyFrom {l : Launch} (h0 : Nat) (a_s_course : Nat) (a_s_course_cells : Nat) (a_s_course_notes : Nat) (a_p0 : Nat) (a_p0_cells : Nat) (a_p0_notes : Nat) (s_course_boards : Int32) (s_course_cells : Nat → Int64) (s_course_notes : Nat → Int32) (p0_boards : Int32) (p0_cells : Nat → Int64) (p0_notes : Nat → Int32) (o_s_course_boards : Int32) (o_s_course_cells : Nat → Int64) (o_s_course_notes : Nat → Int32) (hm : fX1_copyFrom s_course_boards s_course_cells s_course_notes p0_boards p0_cells p0_notes = some (o_s_course_boards, o_s_course_cells, o_s_course_notes)) : CtV l yX1_copyFrom wsX1_copyFrom ({ frames := 1, cells := 0, slots := 0, locals := 22 } : Room) [.ref h0, .ref a_p0] [(h0, eO 1 [.ref a_s_course]), (a_s_course, eO 3 [.ref a_s_course_cells, .ref a_s_course_notes, .int s_course_boards]), (a_s_course_cells, eJ 392 s_course_cells), (a_s_course_notes, eI 288 s_course_notes), (a_p0, eO 3 [.ref a_p0_cells, .ref a_p0_notes, .int p0_boards]), (a_p0_cells, eJ 392 p0_cells), (a_p0_notes, eI 288 p0_notes)] [(h0, eO 1 [.ref a_s_course]), (a_s_course, eO 3 [.ref a_s_course_cells, .ref a_s_course_notes, .int o_s_course_boards]), (a_s_course_cells, eJ 392 o_s_course_cells), (a_s_course_notes, eI 288 o_s_course_notes), (a_p0, eO 3 [.ref a_p0_cells, .ref a_p0_notes, .int p0_boards]), (a_p0_cells, eJ 392 p0_cells), (a_p0_notes, eI 288 p0_notes)] := by
  refine CtV_of (cc := cX1_copyFrom) (maxL := 2) (own := RX1) rfl (by decide) rfl (lv0 := [(0, .ref h0), (1, .ref a_p0)]) rfl (Nat.le_of_ble_eq_true rfl) (fun Γ hL C hR => ?_)
  subst hL
  unfold fX1_copyFrom at hm
  refine V_aload_n C 0 dX1_copyFrom_0 rfl rfl ?_
  refine V_get C uX1_copyFrom_X1 0 0 rfl rfl (by decide) mX1_copyFrom_1 rfl dX1_copyFrom_1 ?_
  refine V_aload_n C 1 dX1_copyFrom_4 rfl rfl ?_
  obtain ⟨w_1, w_2, w_3, hc_4, hm⟩ := bd3 hm
  refine V_callVV C (As := [.ref a_p0]) (wr := [(h0, eO 1 [.ref a_s_course])]) (ws2 := [(h0, eO 1 [.ref a_s_course]), (a_s_course, eO 3 [.ref a_s_course_cells, .ref a_s_course_notes, .int w_1]), (a_s_course_cells, eJ 392 w_2), (a_s_course_notes, eI 288 w_3), (a_p0, eO 3 [.ref a_p0_cells, .ref a_p0_notes, .int p0_boards]), (a_p0_cells, eJ 392 p0_cells), (a_p0_notes, eI 288 p0_notes)]) (kX3_takeFrom a_s_course a_s_course_cells a_s_course_notes a_p0 a_p0_cells a_p0_notes s_course_boards s_course_cells s_course_notes p0_boards p0_cells p0_notes w_1 w_2 w_3 hc_4) gX1_copyFrom_X3_takeFrom rfl ⟨rfl, rfl⟩ hdX3_takeFrom ⟨Nat.le_of_ble_eq_true rfl, Nat.le_of_ble_eq_true rfl⟩ ⟨Nat.zero_le _, Nat.zero_le _⟩ 0 rfl rfl [1, 2, 3, 4, 5, 6] [0] [0, 1, 2, 3, 4, 5, 6] rfl rfl ⟨rfl, rfl, rfl⟩ (by decide) rfl rfl (Nat.le_of_ble_eq_true rfl) dX1_copyFrom_5 ?_
  cases hm
  exact hR _ _ dX1_copyFrom_8
theorem hdX1_copyFrom : yX1_copyFrom.cls = RX1 ∧ yX1_copyFrom.cls ≠ "java/lang/invoke/MethodHandle" ∧ yX1_copyFrom.cls ≠ "java/lang/invoke/VarHandle" ∧ (parseMethodDescriptor yX1_copyFrom.desc).map (fun d => d.parameters.length) = some 1 := by decide +kernel
-- RodBoard$Clerk.change(IIJ)I
theorem uX1_change_X1 : ∀ w ∈ wsX10, w ∈ wsX1_change := fun _ h => List.mem_cons_of_mem _ (List.mem_append_left _ (List.mem_append_right _ h))
theorem mX1_change_1 : Cond.fieldLink RX1 12 "RodBoard$Clerk" "course" "LRodBoard$Course;" ∈ wsX1_change := List.mem_of_getElem? (i := 1) rfl
def fX1_change (p0 : Int32) (p1 : Int32) (p2 : Int64) (s_course_cells : Nat → Int64) : Option ((Int32) × (Nat → Int64)) := Option.bind (fX3_cell p0 p1 s_course_cells) (fun r_1 => if r_1 = p2 then some ((0 : Int32), s_course_cells) else Option.bind (fX3_put p0 p1 p2 s_course_cells) (fun w_4 => some ((1 : Int32), w_4)))
set_option maxHeartbeats 4000000 in
set_option maxRecDepth 100000 in
theorem kX1_change {l : Launch} (h0 : Nat) (a_s_course : Nat) (a_s_course_cells : Nat) (a_s_course_notes : Nat) (s_course_boards : Int32) (s_course_cells : Nat → Int64) (s_course_notes : Nat → Int32) (p0 : Int32) (p1 : Int32) (p2 : Int64) (r : Int32) (o_s_course_cells : Nat → Int64) (hm : fX1_change p0 p1 p2 s_course_cells = some (r, o_s_course_cells)) : CtI l yX1_change wsX1_change ({ frames := 1, cells := 0, slots := 0, locals := 25 } : Room) [.ref h0, .int p0, .int p1, .long p2] [(h0, eO 1 [.ref a_s_course]), (a_s_course, eO 3 [.ref a_s_course_cells, .ref a_s_course_notes, .int s_course_boards]), (a_s_course_cells, eJ 392 s_course_cells), (a_s_course_notes, eI 288 s_course_notes)] r [(h0, eO 1 [.ref a_s_course]), (a_s_course, eO 3 [.ref a_s_course_cells, .ref a_s_course_notes, .int s_course_boards]), (a_s_course_cells, eJ 392 o_s_course_cells), (a_s_course_notes, eI 288 s_course_notes)] := by
  refine CtI_of (cc := cX1_change) (maxL := 5) (ty := .int) (own := RX1) rfl (by decide) rfl (lv0 := [(0, .ref h0), (1, .int p0), (2, .int p1), (3, .long p2)]) rfl (Nat.le_of_ble_eq_true rfl) (fun Γ hL C hR => ?_)
  subst hL
  unfold fX1_change at hm
  refine V_aload_n C 0 dX1_change_0 rfl rfl ?_
  refine V_get C uX1_change_X1 0 0 rfl rfl (by decide) mX1_change_1 rfl dX1_change_1 ?_
  refine V_iload_n C 1 dX1_change_4 rfl rfl ?_
  refine V_iload_n C 2 dX1_change_5 rfl rfl ?_
  obtain ⟨r_1, hc_2, hm⟩ := bnd hm
  refine V_callVL C (As := [.int p0, .int p1]) (wr := [(h0, eO 1 [.ref a_s_course])]) (ws2 := [(h0, eO 1 [.ref a_s_course]), (a_s_course, eO 3 [.ref a_s_course_cells, .ref a_s_course_notes, .int s_course_boards]), (a_s_course_cells, eJ 392 s_course_cells), (a_s_course_notes, eI 288 s_course_notes)]) (kX3_cell a_s_course a_s_course_cells a_s_course_notes s_course_boards s_course_cells s_course_notes p0 p1 r_1 hc_2) gX1_change_X3_cell rfl ⟨rfl, rfl⟩ hdX3_cell ⟨Nat.le_of_ble_eq_true rfl, Nat.le_of_ble_eq_true rfl⟩ ⟨Nat.zero_le _, Nat.zero_le _⟩ 0 rfl rfl [1, 2, 3] [0] [0, 1, 2, 3] rfl rfl ⟨rfl, rfl, rfl⟩ (by decide) rfl rfl (Nat.le_of_ble_eq_true rfl) dX1_change_6 ?_
  refine V_lload_n C 3 dX1_change_9 rfl rfl ?_
  refine V_lcmp_ne C 16 dX1_change_10 dX1_change_11 (by decide) (fun c_3 => ?_) (fun c_3 => ?_)
  · have hm := ite_t c_3 hm
    refine V_iconst C (v := (0 : Int32)) dX1_change_14 (by decide) ?_
    cases hm
    exact hR _ _ rfl dX1_change_15
  · have hm := ite_f c_3 hm
    refine V_aload_n C 0 dX1_change_16 rfl rfl ?_
    refine V_get C uX1_change_X1 0 0 rfl rfl (by decide) mX1_change_1 rfl dX1_change_17 ?_
    refine V_iload_n C 1 dX1_change_20 rfl rfl ?_
    refine V_iload_n C 2 dX1_change_21 rfl rfl ?_
    refine V_lload_n C 3 dX1_change_22 rfl rfl ?_
    obtain ⟨w_4, hc_5, hm⟩ := bnd hm
    refine V_callVV C (As := [.int p0, .int p1, .long p2]) (wr := [(h0, eO 1 [.ref a_s_course])]) (ws2 := [(h0, eO 1 [.ref a_s_course]), (a_s_course, eO 3 [.ref a_s_course_cells, .ref a_s_course_notes, .int s_course_boards]), (a_s_course_cells, eJ 392 w_4), (a_s_course_notes, eI 288 s_course_notes)]) (kX3_put a_s_course a_s_course_cells a_s_course_notes s_course_boards s_course_cells s_course_notes p0 p1 p2 w_4 hc_5) gX1_change_X3_put rfl ⟨rfl, rfl⟩ hdX3_put ⟨Nat.le_of_ble_eq_true rfl, Nat.le_of_ble_eq_true rfl⟩ ⟨Nat.zero_le _, Nat.zero_le _⟩ 0 rfl rfl [1, 2, 3] [0] [0, 1, 2, 3] rfl rfl ⟨rfl, rfl, rfl⟩ (by decide) rfl rfl (Nat.le_of_ble_eq_true rfl) dX1_change_23 ?_
    refine V_iconst C (v := (1 : Int32)) dX1_change_26 (by decide) ?_
    cases hm
    exact hR _ _ rfl dX1_change_27
theorem hdX1_change : yX1_change.cls = RX1 ∧ yX1_change.cls ≠ "java/lang/invoke/MethodHandle" ∧ yX1_change.cls ≠ "java/lang/invoke/VarHandle" ∧ (parseMethodDescriptor yX1_change.desc).map (fun d => d.parameters.length) = some 3 := by decide +kernel
-- RodBoard$Clerk.gapsIn(I)I
theorem uX1_gapsIn_X1 : ∀ w ∈ wsX10, w ∈ wsX1_gapsIn := fun _ h => List.mem_cons_of_mem _ (List.mem_append_left _ (List.mem_append_right _ h))
theorem mX1_gapsIn_1 : Cond.fieldLink RX1 12 "RodBoard$Clerk" "course" "LRodBoard$Course;" ∈ wsX1_gapsIn := List.mem_of_getElem? (i := 1) rfl
theorem mX1_gapsIn_2 : Cond.constantLong RX1 41 (-1000000000000000) ∈ wsX1_gapsIn := List.mem_of_getElem? (i := 2) rfl
def fX1_gapsIn_L4b (x1 : Int32) (s_course_cells : Nat → Int64) (x2 : Int32) (x3 : Int32) : Option (((Int32) × (Int32)) ⊕ ((Int32))) := if x3 < (8 : Int32) then Option.bind (fX3_cell x1 x3 s_course_cells) (fun r_2 => if r_2 = (-1000000000000000 : Int64) then some (Sum.inl (x2 + (1 : Int32), x3 + (1 : Int32))) else some (Sum.inl (x2, x3 + (1 : Int32)))) else some (Sum.inr x2)
def fX1_gapsIn_L4 (x1 : Int32) (s_course_cells : Nat → Int64) : ((Int32) × (Int32)) → Option (((Int32) × (Int32)) ⊕ ((Int32))) := fun e => fX1_gapsIn_L4b x1 s_course_cells e.1 e.2
set_option maxHeartbeats 4000000 in
set_option maxRecDepth 100000 in
theorem bX1_gapsIn_L4 {Γ : KT} (C : CX Γ cX1_gapsIn 4 wsX1_gapsIn RX1 ({ frames := 1, cells := 0, slots := 0, locals := 23 } : Room)) (h0 : Nat) (a_s_course : Nat) (a_s_course_cells : Nat) (a_s_course_notes : Nat) (x1 : Int32) (s_course_boards : Int32) (s_course_cells : Nat → Int64) (s_course_notes : Nat → Int32) (x2 : Int32) (x3 : Int32) (x : ((Int32) × (Int32)) ⊕ ((Int32))) (hm : fX1_gapsIn_L4b x1 s_course_cells x2 x3 = some x) (hb : (∀ (x2' : Int32) (x3' : Int32), x = Sum.inl (x2', x3') → V Γ 4 0 0 4 [(0, .ref h0), (1, .int x1), (2, .int x2'), (3, .int x3')] [] [(h0, eO 1 [.ref a_s_course]), (a_s_course, eO 3 [.ref a_s_course_cells, .ref a_s_course_notes, .int s_course_boards]), (a_s_course_cells, eJ 392 s_course_cells), (a_s_course_notes, eI 288 s_course_notes)])) (he0 : (∀ (x2' : Int32), x = Sum.inr x2' → V Γ 4 0 0 35 [(2, .int x2')] [] [(h0, eO 1 [.ref a_s_course]), (a_s_course, eO 3 [.ref a_s_course_cells, .ref a_s_course_notes, .int s_course_boards]), (a_s_course_cells, eJ 392 s_course_cells), (a_s_course_notes, eI 288 s_course_notes)])) : V Γ 4 0 0 4 [(0, .ref h0), (1, .int x1), (2, .int x2), (3, .int x3)] [] [(h0, eO 1 [.ref a_s_course]), (a_s_course, eO 3 [.ref a_s_course_cells, .ref a_s_course_notes, .int s_course_boards]), (a_s_course_cells, eJ 392 s_course_cells), (a_s_course_notes, eI 288 s_course_notes)] := by
  unfold fX1_gapsIn_L4b at hm
  refine V_iload_n C 3 dX1_gapsIn_4 rfl rfl ?_
  refine V_bipush C (v := (8 : Int32)) dX1_gapsIn_5 (by decide) ?_
  refine V_icmp_ge C 35 dX1_gapsIn_7 (by decide) (fun c_1 => ?_) (fun c_1 => ?_)
  · have hm := ite_t c_1 hm
    refine V_aload_n C 0 dX1_gapsIn_10 rfl rfl ?_
    refine V_get C uX1_gapsIn_X1 0 0 rfl rfl (by decide) mX1_gapsIn_1 rfl dX1_gapsIn_11 ?_
    refine V_iload_n C 1 dX1_gapsIn_14 rfl rfl ?_
    refine V_iload_n C 3 dX1_gapsIn_15 rfl rfl ?_
    obtain ⟨r_2, hc_3, hm⟩ := bnd hm
    refine V_callVL C (As := [.int x1, .int x3]) (wr := [(h0, eO 1 [.ref a_s_course])]) (ws2 := [(h0, eO 1 [.ref a_s_course]), (a_s_course, eO 3 [.ref a_s_course_cells, .ref a_s_course_notes, .int s_course_boards]), (a_s_course_cells, eJ 392 s_course_cells), (a_s_course_notes, eI 288 s_course_notes)]) (kX3_cell a_s_course a_s_course_cells a_s_course_notes s_course_boards s_course_cells s_course_notes x1 x3 r_2 hc_3) gX1_gapsIn_X3_cell rfl ⟨rfl, rfl⟩ hdX3_cell ⟨Nat.le_of_ble_eq_true rfl, Nat.le_of_ble_eq_true rfl⟩ ⟨Nat.zero_le _, Nat.zero_le _⟩ 0 rfl rfl [1, 2, 3] [0] [0, 1, 2, 3] rfl rfl ⟨rfl, rfl, rfl⟩ (by decide) rfl rfl (Nat.le_of_ble_eq_true rfl) dX1_gapsIn_16 ?_
    refine V_ldc2 C (v := (-1000000000000000 : Int64)) mX1_gapsIn_2 dX1_gapsIn_19 ?_
    refine V_lcmp_ne C 29 dX1_gapsIn_22 dX1_gapsIn_23 (by decide) (fun c_4 => ?_) (fun c_4 => ?_)
    · have hm := ite_t c_4 hm
      refine V_iinc C 2 (v := x2 + (1 : Int32)) (lv' := [(2, .int (x2 + (1 : Int32))), (0, .ref h0), (1, .int x1), (3, .int x3)]) dX1_gapsIn_26 rfl rfl (by decide) rfl ?_
      refine V_iinc C 3 (v := x3 + (1 : Int32)) (lv' := [(3, .int (x3 + (1 : Int32))), (2, .int (x2 + (1 : Int32))), (0, .ref h0), (1, .int x1)]) dX1_gapsIn_29 rfl rfl (by decide) rfl ?_
      refine V_goto C 4 dX1_gapsIn_32 (by decide) ?_
      refine V_lv [2, 3, 1, 0] rfl ?_
      exact hb (x2 + (1 : Int32)) (x3 + (1 : Int32)) (Option.some.inj hm).symm
    · have hm := ite_f c_4 hm
      refine V_iinc C 3 (v := x3 + (1 : Int32)) (lv' := [(3, .int (x3 + (1 : Int32))), (0, .ref h0), (1, .int x1), (2, .int x2)]) dX1_gapsIn_29 rfl rfl (by decide) rfl ?_
      refine V_goto C 4 dX1_gapsIn_32 (by decide) ?_
      refine V_lv [1, 2, 3, 0] rfl ?_
      exact hb x2 (x3 + (1 : Int32)) (Option.some.inj hm).symm
  · have hm := ite_f c_1 hm
    refine V_lv [2] rfl ?_
    exact he0 x2 (Option.some.inj hm).symm
theorem lX1_gapsIn_L4 {Γ : KT} (C : CX Γ cX1_gapsIn 4 wsX1_gapsIn RX1 ({ frames := 1, cells := 0, slots := 0, locals := 23 } : Room)) (h0 : Nat) (a_s_course : Nat) (a_s_course_cells : Nat) (a_s_course_notes : Nat) (x1 : Int32) (s_course_boards : Int32) (s_course_cells : Nat → Int64) (s_course_notes : Nat → Int32) (x2 : Int32) (x3 : Int32) (N : Nat) (e : (Int32)) (hN : itr (fX1_gapsIn_L4 x1 s_course_cells) N (x2, x3) = some e) (he0 : (∀ (x2' : Int32), e = x2' → V Γ 4 0 0 35 [(2, .int x2')] [] [(h0, eO 1 [.ref a_s_course]), (a_s_course, eO 3 [.ref a_s_course_cells, .ref a_s_course_notes, .int s_course_boards]), (a_s_course_cells, eJ 392 s_course_cells), (a_s_course_notes, eI 288 s_course_notes)])) : V Γ 4 0 0 4 [(0, .ref h0), (1, .int x1), (2, .int x2), (3, .int x3)] [] [(h0, eO 1 [.ref a_s_course]), (a_s_course, eO 3 [.ref a_s_course_cells, .ref a_s_course_notes, .int s_course_boards]), (a_s_course_cells, eJ 392 s_course_cells), (a_s_course_notes, eI 288 s_course_notes)] := by
  induction N generalizing x2 x3 with
  | zero => exact absurd hN (fun h => itr_0 h)
  | succ N ih =>
    obtain ⟨x, hx, hN⟩ := itr_s hN
    refine bX1_gapsIn_L4 C h0 a_s_course a_s_course_cells a_s_course_notes x1 s_course_boards s_course_cells s_course_notes x2 x3 x hx (fun x2' x3' h => ih x2' x3' (by subst h; exact hN)) (fun y0 h => he0 y0 (by subst h; exact (Option.some.inj hN).symm))
def fX1_gapsIn (p0 : Int32) (s_course_cells : Nat → Int64) : Option ((Int32)) := Option.bind (itr (fX1_gapsIn_L4 p0 s_course_cells) KF ((0 : Int32), (0 : Int32))) (fun x2_7 => some x2_7)
set_option maxHeartbeats 4000000 in
set_option maxRecDepth 100000 in
theorem kX1_gapsIn {l : Launch} (h0 : Nat) (a_s_course : Nat) (a_s_course_cells : Nat) (a_s_course_notes : Nat) (s_course_boards : Int32) (s_course_cells : Nat → Int64) (s_course_notes : Nat → Int32) (p0 : Int32) (r : Int32) (hm : fX1_gapsIn p0 s_course_cells = some r) : CtI l yX1_gapsIn wsX1_gapsIn ({ frames := 1, cells := 0, slots := 0, locals := 23 } : Room) [.ref h0, .int p0] [(h0, eO 1 [.ref a_s_course]), (a_s_course, eO 3 [.ref a_s_course_cells, .ref a_s_course_notes, .int s_course_boards]), (a_s_course_cells, eJ 392 s_course_cells), (a_s_course_notes, eI 288 s_course_notes)] r [(h0, eO 1 [.ref a_s_course]), (a_s_course, eO 3 [.ref a_s_course_cells, .ref a_s_course_notes, .int s_course_boards]), (a_s_course_cells, eJ 392 s_course_cells), (a_s_course_notes, eI 288 s_course_notes)] := by
  refine CtI_of (cc := cX1_gapsIn) (maxL := 4) (ty := .int) (own := RX1) rfl (by decide) rfl (lv0 := [(0, .ref h0), (1, .int p0)]) rfl (Nat.le_of_ble_eq_true rfl) (fun Γ hL C hR => ?_)
  subst hL
  unfold fX1_gapsIn at hm
  refine V_iconst C (v := (0 : Int32)) dX1_gapsIn_0 (by decide) ?_
  refine V_istore_n C (lv' := [(2, .int (0 : Int32)), (0, .ref h0), (1, .int p0)]) dX1_gapsIn_1 rfl (by decide) rfl ?_
  refine V_iconst C (v := (0 : Int32)) dX1_gapsIn_2 (by decide) ?_
  refine V_istore_n C (lv' := [(3, .int (0 : Int32)), (2, .int (0 : Int32)), (0, .ref h0), (1, .int p0)]) dX1_gapsIn_3 rfl (by decide) rfl ?_
  obtain ⟨x2_7, hE_6, hm⟩ := bnd hm
  refine V_lv [2, 3, 1, 0] rfl ?_
  refine lX1_gapsIn_L4 C h0 a_s_course a_s_course_cells a_s_course_notes p0 s_course_boards s_course_cells s_course_notes (0 : Int32) (0 : Int32) KF _ hE_6 ?_
  intro q_8 hq
  cases hq
  refine V_iload_n C 0 dX1_gapsIn_35 rfl rfl ?_
  cases hm
  exact hR _ _ rfl dX1_gapsIn_36
theorem hdX1_gapsIn : yX1_gapsIn.cls = RX1 ∧ yX1_gapsIn.cls ≠ "java/lang/invoke/MethodHandle" ∧ yX1_gapsIn.cls ≠ "java/lang/invoke/VarHandle" ∧ (parseMethodDescriptor yX1_gapsIn.desc).map (fun d => d.parameters.length) = some 1 := by decide +kernel
-- RodBoard$Clerk.allGaps()I
theorem uX1_allGaps_X1 : ∀ w ∈ wsX10, w ∈ wsX1_allGaps := fun _ h => List.mem_cons_of_mem _ (List.mem_append_left _ (List.mem_append_right _ h))
theorem mX1_allGaps_1 : Cond.fieldLink RX1 12 "RodBoard$Clerk" "course" "LRodBoard$Course;" ∈ wsX1_allGaps := List.mem_of_getElem? (i := 1) rfl
def fX1_allGaps_L4b (s_course_boards : Int32) (s_course_cells : Nat → Int64) (x1 : Int32) (x2 : Int32) : Option (((Int32) × (Int32)) ⊕ ((Int32))) := Option.bind (fX3_size s_course_boards) (fun r_1 => if x2 < r_1 then Option.bind (fX1_gapsIn x2 s_course_cells) (fun r_4 => some (Sum.inl (x1 + r_4, x2 + (1 : Int32)))) else some (Sum.inr x1))
def fX1_allGaps_L4 (s_course_boards : Int32) (s_course_cells : Nat → Int64) : ((Int32) × (Int32)) → Option (((Int32) × (Int32)) ⊕ ((Int32))) := fun e => fX1_allGaps_L4b s_course_boards s_course_cells e.1 e.2
set_option maxHeartbeats 4000000 in
set_option maxRecDepth 100000 in
theorem bX1_allGaps_L4 {Γ : KT} (C : CX Γ cX1_allGaps 3 wsX1_allGaps RX1 ({ frames := 2, cells := 0, slots := 0, locals := 46 } : Room)) (h0 : Nat) (a_s_course : Nat) (a_s_course_cells : Nat) (a_s_course_notes : Nat) (s_course_boards : Int32) (s_course_cells : Nat → Int64) (s_course_notes : Nat → Int32) (x1 : Int32) (x2 : Int32) (x : ((Int32) × (Int32)) ⊕ ((Int32))) (hm : fX1_allGaps_L4b s_course_boards s_course_cells x1 x2 = some x) (hb : (∀ (x1' : Int32) (x2' : Int32), x = Sum.inl (x1', x2') → V Γ 3 0 0 4 [(0, .ref h0), (1, .int x1'), (2, .int x2')] [] [(h0, eO 1 [.ref a_s_course]), (a_s_course, eO 3 [.ref a_s_course_cells, .ref a_s_course_notes, .int s_course_boards]), (a_s_course_cells, eJ 392 s_course_cells), (a_s_course_notes, eI 288 s_course_notes)])) (he0 : (∀ (x1' : Int32), x = Sum.inr x1' → V Γ 3 0 0 29 [(1, .int x1')] [] [(h0, eO 1 [.ref a_s_course]), (a_s_course, eO 3 [.ref a_s_course_cells, .ref a_s_course_notes, .int s_course_boards]), (a_s_course_cells, eJ 392 s_course_cells), (a_s_course_notes, eI 288 s_course_notes)])) : V Γ 3 0 0 4 [(0, .ref h0), (1, .int x1), (2, .int x2)] [] [(h0, eO 1 [.ref a_s_course]), (a_s_course, eO 3 [.ref a_s_course_cells, .ref a_s_course_notes, .int s_course_boards]), (a_s_course_cells, eJ 392 s_course_cells), (a_s_course_notes, eI 288 s_course_notes)] := by
  unfold fX1_allGaps_L4b at hm
  refine V_iload_n C 2 dX1_allGaps_4 rfl rfl ?_
  refine V_aload_n C 0 dX1_allGaps_5 rfl rfl ?_
  refine V_get C uX1_allGaps_X1 0 0 rfl rfl (by decide) mX1_allGaps_1 rfl dX1_allGaps_6 ?_
  obtain ⟨r_1, hc_2, hm⟩ := bnd hm
  refine V_callVI C (As := []) (wr := [(h0, eO 1 [.ref a_s_course])]) (ws2 := [(h0, eO 1 [.ref a_s_course]), (a_s_course, eO 3 [.ref a_s_course_cells, .ref a_s_course_notes, .int s_course_boards]), (a_s_course_cells, eJ 392 s_course_cells), (a_s_course_notes, eI 288 s_course_notes)]) (kX3_size a_s_course a_s_course_cells a_s_course_notes s_course_boards s_course_cells s_course_notes r_1 hc_2) gX1_allGaps_X3_size rfl ⟨rfl, rfl⟩ hdX3_size ⟨Nat.le_of_ble_eq_true rfl, Nat.le_of_ble_eq_true rfl⟩ ⟨Nat.zero_le _, Nat.zero_le _⟩ 0 rfl rfl [1, 2, 3] [0] [0, 1, 2, 3] rfl rfl ⟨rfl, rfl, rfl⟩ (by decide) rfl rfl (Nat.le_of_ble_eq_true rfl) dX1_allGaps_9 ?_
  refine V_icmp_ge C 29 dX1_allGaps_12 (by decide) (fun c_3 => ?_) (fun c_3 => ?_)
  · have hm := ite_t c_3 hm
    refine V_iload_n C 1 dX1_allGaps_15 rfl rfl ?_
    refine V_aload_n C 0 dX1_allGaps_16 rfl rfl ?_
    refine V_iload_n C 2 dX1_allGaps_17 rfl rfl ?_
    obtain ⟨r_4, hc_5, hm⟩ := bnd hm
    refine V_callVI C (As := [.int x2]) (wr := []) (ws2 := [(h0, eO 1 [.ref a_s_course]), (a_s_course, eO 3 [.ref a_s_course_cells, .ref a_s_course_notes, .int s_course_boards]), (a_s_course_cells, eJ 392 s_course_cells), (a_s_course_notes, eI 288 s_course_notes)]) (kX1_gapsIn h0 a_s_course a_s_course_cells a_s_course_notes s_course_boards s_course_cells s_course_notes x2 r_4 hc_5) gX1_allGaps_X1_gapsIn rfl ⟨rfl, rfl⟩ hdX1_gapsIn ⟨Nat.le_of_ble_eq_true rfl, Nat.le_of_ble_eq_true rfl⟩ ⟨Nat.zero_le _, Nat.zero_le _⟩ 0 rfl rfl [0, 1, 2, 3] [] [0, 1, 2, 3] rfl rfl ⟨rfl, rfl, rfl⟩ (by decide) rfl rfl (Nat.le_of_ble_eq_true rfl) dX1_allGaps_18 ?_
    refine V_iadd C dX1_allGaps_21 ?_
    refine V_istore_n C (lv' := [(1, .int (x1 + r_4)), (0, .ref h0), (2, .int x2)]) dX1_allGaps_22 rfl (by decide) rfl ?_
    refine V_iinc C 2 (v := x2 + (1 : Int32)) (lv' := [(2, .int (x2 + (1 : Int32))), (1, .int (x1 + r_4)), (0, .ref h0)]) dX1_allGaps_23 rfl rfl (by decide) rfl ?_
    refine V_goto C 4 dX1_allGaps_26 (by decide) ?_
    refine V_lv [2, 1, 0] rfl ?_
    exact hb (x1 + r_4) (x2 + (1 : Int32)) (Option.some.inj hm).symm
  · have hm := ite_f c_3 hm
    refine V_lv [1] rfl ?_
    exact he0 x1 (Option.some.inj hm).symm
theorem lX1_allGaps_L4 {Γ : KT} (C : CX Γ cX1_allGaps 3 wsX1_allGaps RX1 ({ frames := 2, cells := 0, slots := 0, locals := 46 } : Room)) (h0 : Nat) (a_s_course : Nat) (a_s_course_cells : Nat) (a_s_course_notes : Nat) (s_course_boards : Int32) (s_course_cells : Nat → Int64) (s_course_notes : Nat → Int32) (x1 : Int32) (x2 : Int32) (N : Nat) (e : (Int32)) (hN : itr (fX1_allGaps_L4 s_course_boards s_course_cells) N (x1, x2) = some e) (he0 : (∀ (x1' : Int32), e = x1' → V Γ 3 0 0 29 [(1, .int x1')] [] [(h0, eO 1 [.ref a_s_course]), (a_s_course, eO 3 [.ref a_s_course_cells, .ref a_s_course_notes, .int s_course_boards]), (a_s_course_cells, eJ 392 s_course_cells), (a_s_course_notes, eI 288 s_course_notes)])) : V Γ 3 0 0 4 [(0, .ref h0), (1, .int x1), (2, .int x2)] [] [(h0, eO 1 [.ref a_s_course]), (a_s_course, eO 3 [.ref a_s_course_cells, .ref a_s_course_notes, .int s_course_boards]), (a_s_course_cells, eJ 392 s_course_cells), (a_s_course_notes, eI 288 s_course_notes)] := by
  induction N generalizing x1 x2 with
  | zero => exact absurd hN (fun h => itr_0 h)
  | succ N ih =>
    obtain ⟨x, hx, hN⟩ := itr_s hN
    refine bX1_allGaps_L4 C h0 a_s_course a_s_course_cells a_s_course_notes s_course_boards s_course_cells s_course_notes x1 x2 x hx (fun x1' x2' h => ih x1' x2' (by subst h; exact hN)) (fun y0 h => he0 y0 (by subst h; exact (Option.some.inj hN).symm))
def fX1_allGaps (s_course_boards : Int32) (s_course_cells : Nat → Int64) : Option ((Int32)) := Option.bind (itr (fX1_allGaps_L4 s_course_boards s_course_cells) KF ((0 : Int32), (0 : Int32))) (fun x1_8 => some x1_8)
set_option maxHeartbeats 4000000 in
set_option maxRecDepth 100000 in
theorem kX1_allGaps {l : Launch} (h0 : Nat) (a_s_course : Nat) (a_s_course_cells : Nat) (a_s_course_notes : Nat) (s_course_boards : Int32) (s_course_cells : Nat → Int64) (s_course_notes : Nat → Int32) (r : Int32) (hm : fX1_allGaps s_course_boards s_course_cells = some r) : CtI l yX1_allGaps wsX1_allGaps ({ frames := 2, cells := 0, slots := 0, locals := 46 } : Room) [.ref h0] [(h0, eO 1 [.ref a_s_course]), (a_s_course, eO 3 [.ref a_s_course_cells, .ref a_s_course_notes, .int s_course_boards]), (a_s_course_cells, eJ 392 s_course_cells), (a_s_course_notes, eI 288 s_course_notes)] r [(h0, eO 1 [.ref a_s_course]), (a_s_course, eO 3 [.ref a_s_course_cells, .ref a_s_course_notes, .int s_course_boards]), (a_s_course_cells, eJ 392 s_course_cells), (a_s_course_notes, eI 288 s_course_notes)] := by
  refine CtI_of (cc := cX1_allGaps) (maxL := 3) (ty := .int) (own := RX1) rfl (by decide) rfl (lv0 := [(0, .ref h0)]) rfl (Nat.le_of_ble_eq_true rfl) (fun Γ hL C hR => ?_)
  subst hL
  unfold fX1_allGaps at hm
  refine V_iconst C (v := (0 : Int32)) dX1_allGaps_0 (by decide) ?_
  refine V_istore_n C (lv' := [(1, .int (0 : Int32)), (0, .ref h0)]) dX1_allGaps_1 rfl (by decide) rfl ?_
  refine V_iconst C (v := (0 : Int32)) dX1_allGaps_2 (by decide) ?_
  refine V_istore_n C (lv' := [(2, .int (0 : Int32)), (1, .int (0 : Int32)), (0, .ref h0)]) dX1_allGaps_3 rfl (by decide) rfl ?_
  obtain ⟨x1_8, hE_7, hm⟩ := bnd hm
  refine V_lv [2, 1, 0] rfl ?_
  refine lX1_allGaps_L4 C h0 a_s_course a_s_course_cells a_s_course_notes s_course_boards s_course_cells s_course_notes (0 : Int32) (0 : Int32) KF _ hE_7 ?_
  intro q_9 hq
  cases hq
  refine V_iload_n C 0 dX1_allGaps_29 rfl rfl ?_
  cases hm
  exact hR _ _ rfl dX1_allGaps_30
theorem hdX1_allGaps : yX1_allGaps.cls = RX1 ∧ yX1_allGaps.cls ≠ "java/lang/invoke/MethodHandle" ∧ yX1_allGaps.cls ≠ "java/lang/invoke/VarHandle" ∧ (parseMethodDescriptor yX1_allGaps.desc).map (fun d => d.parameters.length) = some 0 := by decide +kernel
-- RodBoard$Clerk.isDark(I)Z
def fX1_isDark (p0 : Int32) (s_course_cells : Nat → Int64) : Option ((Int32)) := Option.bind (fX1_gapsIn p0 s_course_cells) (fun r_1 => if (0 : Int32) < r_1 then some (1 : Int32) else Option.bind (fX1_gapsIn (p0 + (1 : Int32)) s_course_cells) (fun r_4 => if (0 : Int32) < r_4 then some (1 : Int32) else some (0 : Int32)))
set_option maxHeartbeats 4000000 in
set_option maxRecDepth 100000 in
theorem kX1_isDark {l : Launch} (h0 : Nat) (a_s_course : Nat) (a_s_course_cells : Nat) (a_s_course_notes : Nat) (s_course_boards : Int32) (s_course_cells : Nat → Int64) (s_course_notes : Nat → Int32) (p0 : Int32) (r : Int32) (hm : fX1_isDark p0 s_course_cells = some r) : CtI l yX1_isDark wsX1_isDark ({ frames := 2, cells := 0, slots := 0, locals := 46 } : Room) [.ref h0, .int p0] [(h0, eO 1 [.ref a_s_course]), (a_s_course, eO 3 [.ref a_s_course_cells, .ref a_s_course_notes, .int s_course_boards]), (a_s_course_cells, eJ 392 s_course_cells), (a_s_course_notes, eI 288 s_course_notes)] r [(h0, eO 1 [.ref a_s_course]), (a_s_course, eO 3 [.ref a_s_course_cells, .ref a_s_course_notes, .int s_course_boards]), (a_s_course_cells, eJ 392 s_course_cells), (a_s_course_notes, eI 288 s_course_notes)] := by
  refine CtI_of (cc := cX1_isDark) (maxL := 2) (ty := .boolean) (own := RX1) rfl (by decide) rfl (lv0 := [(0, .ref h0), (1, .int p0)]) rfl (Nat.le_of_ble_eq_true rfl) (fun Γ hL C hR => ?_)
  subst hL
  unfold fX1_isDark at hm
  refine V_aload_n C 0 dX1_isDark_0 rfl rfl ?_
  refine V_iload_n C 1 dX1_isDark_1 rfl rfl ?_
  obtain ⟨r_1, hc_2, hm⟩ := bnd hm
  refine V_callVI C (As := [.int p0]) (wr := []) (ws2 := [(h0, eO 1 [.ref a_s_course]), (a_s_course, eO 3 [.ref a_s_course_cells, .ref a_s_course_notes, .int s_course_boards]), (a_s_course_cells, eJ 392 s_course_cells), (a_s_course_notes, eI 288 s_course_notes)]) (kX1_gapsIn h0 a_s_course a_s_course_cells a_s_course_notes s_course_boards s_course_cells s_course_notes p0 r_1 hc_2) gX1_isDark_X1_gapsIn rfl ⟨rfl, rfl⟩ hdX1_gapsIn ⟨Nat.le_of_ble_eq_true rfl, Nat.le_of_ble_eq_true rfl⟩ ⟨Nat.zero_le _, Nat.zero_le _⟩ 0 rfl rfl [0, 1, 2, 3] [] [0, 1, 2, 3] rfl rfl ⟨rfl, rfl, rfl⟩ (by decide) rfl rfl (Nat.le_of_ble_eq_true rfl) dX1_isDark_2 ?_
  refine V_if_gt C 18 dX1_isDark_5 (by decide) (fun c_3 => ?_) (fun c_3 => ?_)
  · have hm := ite_t c_3 hm
    refine V_iconst C (v := (1 : Int32)) dX1_isDark_18 (by decide) ?_
    refine V_goto C 23 dX1_isDark_19 (by decide) ?_
    cases hm
    exact hR _ _ rfl dX1_isDark_23
  · have hm := ite_f c_3 hm
    refine V_aload_n C 0 dX1_isDark_8 rfl rfl ?_
    refine V_iload_n C 1 dX1_isDark_9 rfl rfl ?_
    refine V_iconst C (v := (1 : Int32)) dX1_isDark_10 (by decide) ?_
    refine V_iadd C dX1_isDark_11 ?_
    obtain ⟨r_4, hc_5, hm⟩ := bnd hm
    refine V_callVI C (As := [.int (p0 + (1 : Int32))]) (wr := []) (ws2 := [(h0, eO 1 [.ref a_s_course]), (a_s_course, eO 3 [.ref a_s_course_cells, .ref a_s_course_notes, .int s_course_boards]), (a_s_course_cells, eJ 392 s_course_cells), (a_s_course_notes, eI 288 s_course_notes)]) (kX1_gapsIn h0 a_s_course a_s_course_cells a_s_course_notes s_course_boards s_course_cells s_course_notes (p0 + (1 : Int32)) r_4 hc_5) gX1_isDark_X1_gapsIn rfl ⟨rfl, rfl⟩ hdX1_gapsIn ⟨Nat.le_of_ble_eq_true rfl, Nat.le_of_ble_eq_true rfl⟩ ⟨Nat.zero_le _, Nat.zero_le _⟩ 0 rfl rfl [0, 1, 2, 3] [] [0, 1, 2, 3] rfl rfl ⟨rfl, rfl, rfl⟩ (by decide) rfl rfl (Nat.le_of_ble_eq_true rfl) dX1_isDark_12 ?_
    refine V_if_le C 22 dX1_isDark_15 (by decide) (fun c_6 => ?_) (fun c_6 => ?_)
    · have hm := ite_t c_6 hm
      refine V_iconst C (v := (1 : Int32)) dX1_isDark_18 (by decide) ?_
      refine V_goto C 23 dX1_isDark_19 (by decide) ?_
      cases hm
      exact hR _ _ rfl dX1_isDark_23
    · have hm := ite_f c_6 hm
      refine V_iconst C (v := (0 : Int32)) dX1_isDark_22 (by decide) ?_
      cases hm
      exact hR _ _ rfl dX1_isDark_23
theorem hdX1_isDark : yX1_isDark.cls = RX1 ∧ yX1_isDark.cls ≠ "java/lang/invoke/MethodHandle" ∧ yX1_isDark.cls ≠ "java/lang/invoke/VarHandle" ∧ (parseMethodDescriptor yX1_isDark.desc).map (fun d => d.parameters.length) = some 1 := by decide +kernel
-- RodBoard$Clerk.fits(II)Z
theorem uX1_fits_X1 : ∀ w ∈ wsX10, w ∈ wsX1_fits := fun _ h => List.mem_cons_of_mem _ (List.mem_append_left _ (List.mem_append_right _ h))
theorem mX1_fits_1 : Cond.fieldLink RX1 12 "RodBoard$Clerk" "course" "LRodBoard$Course;" ∈ wsX1_fits := List.mem_of_getElem? (i := 1) rfl
def fX1_fits (p0 : Int32) (p1 : Int32) (s_course_cells : Nat → Int64) (s_course_notes : Nat → Int32) : Option ((Int32)) := Option.bind (fX3_walked p0 p1 s_course_cells s_course_notes) (fun r_1 => Option.bind (fX3_cell (p0 + (1 : Int32)) p1 s_course_cells) (fun r_3 => if r_1 = r_3 then some (1 : Int32) else some (0 : Int32)))
set_option maxHeartbeats 4000000 in
set_option maxRecDepth 100000 in
theorem kX1_fits {l : Launch} (h0 : Nat) (a_s_course : Nat) (a_s_course_cells : Nat) (a_s_course_notes : Nat) (s_course_boards : Int32) (s_course_cells : Nat → Int64) (s_course_notes : Nat → Int32) (p0 : Int32) (p1 : Int32) (r : Int32) (hm : fX1_fits p0 p1 s_course_cells s_course_notes = some r) : CtI l yX1_fits wsX1_fits ({ frames := 4, cells := 0, slots := 0, locals := 98 } : Room) [.ref h0, .int p0, .int p1] [(h0, eO 1 [.ref a_s_course]), (a_s_course, eO 3 [.ref a_s_course_cells, .ref a_s_course_notes, .int s_course_boards]), (a_s_course_cells, eJ 392 s_course_cells), (a_s_course_notes, eI 288 s_course_notes)] r [(h0, eO 1 [.ref a_s_course]), (a_s_course, eO 3 [.ref a_s_course_cells, .ref a_s_course_notes, .int s_course_boards]), (a_s_course_cells, eJ 392 s_course_cells), (a_s_course_notes, eI 288 s_course_notes)] := by
  refine CtI_of (cc := cX1_fits) (maxL := 3) (ty := .boolean) (own := RX1) rfl (by decide) rfl (lv0 := [(0, .ref h0), (1, .int p0), (2, .int p1)]) rfl (Nat.le_of_ble_eq_true rfl) (fun Γ hL C hR => ?_)
  subst hL
  unfold fX1_fits at hm
  refine V_aload_n C 0 dX1_fits_0 rfl rfl ?_
  refine V_get C uX1_fits_X1 0 0 rfl rfl (by decide) mX1_fits_1 rfl dX1_fits_1 ?_
  refine V_iload_n C 1 dX1_fits_4 rfl rfl ?_
  refine V_iload_n C 2 dX1_fits_5 rfl rfl ?_
  obtain ⟨r_1, hc_2, hm⟩ := bnd hm
  refine V_callVL C (As := [.int p0, .int p1]) (wr := [(h0, eO 1 [.ref a_s_course])]) (ws2 := [(h0, eO 1 [.ref a_s_course]), (a_s_course, eO 3 [.ref a_s_course_cells, .ref a_s_course_notes, .int s_course_boards]), (a_s_course_cells, eJ 392 s_course_cells), (a_s_course_notes, eI 288 s_course_notes)]) (kX3_walked a_s_course a_s_course_cells a_s_course_notes s_course_boards s_course_cells s_course_notes p0 p1 r_1 hc_2) gX1_fits_X3_walked rfl ⟨rfl, rfl⟩ hdX3_walked ⟨Nat.le_of_ble_eq_true rfl, Nat.le_of_ble_eq_true rfl⟩ ⟨Nat.zero_le _, Nat.zero_le _⟩ 0 rfl rfl [1, 2, 3] [0] [0, 1, 2, 3] rfl rfl ⟨rfl, rfl, rfl⟩ (by decide) rfl rfl (Nat.le_of_ble_eq_true rfl) dX1_fits_6 ?_
  refine V_aload_n C 0 dX1_fits_9 rfl rfl ?_
  refine V_get C uX1_fits_X1 0 0 rfl rfl (by decide) mX1_fits_1 rfl dX1_fits_10 ?_
  refine V_iload_n C 1 dX1_fits_13 rfl rfl ?_
  refine V_iconst C (v := (1 : Int32)) dX1_fits_14 (by decide) ?_
  refine V_iadd C dX1_fits_15 ?_
  refine V_iload_n C 2 dX1_fits_16 rfl rfl ?_
  obtain ⟨r_3, hc_4, hm⟩ := bnd hm
  refine V_callVL C (As := [.int (p0 + (1 : Int32)), .int p1]) (wr := [(h0, eO 1 [.ref a_s_course])]) (ws2 := [(h0, eO 1 [.ref a_s_course]), (a_s_course, eO 3 [.ref a_s_course_cells, .ref a_s_course_notes, .int s_course_boards]), (a_s_course_cells, eJ 392 s_course_cells), (a_s_course_notes, eI 288 s_course_notes)]) (kX3_cell a_s_course a_s_course_cells a_s_course_notes s_course_boards s_course_cells s_course_notes (p0 + (1 : Int32)) p1 r_3 hc_4) gX1_fits_X3_cell rfl ⟨rfl, rfl⟩ hdX3_cell ⟨Nat.le_of_ble_eq_true rfl, Nat.le_of_ble_eq_true rfl⟩ ⟨Nat.zero_le _, Nat.zero_le _⟩ 0 rfl rfl [1, 2, 3] [0] [0, 1, 2, 3] rfl rfl ⟨rfl, rfl, rfl⟩ (by decide) rfl rfl (Nat.le_of_ble_eq_true rfl) dX1_fits_17 ?_
  refine V_lcmp_ne C 28 dX1_fits_20 dX1_fits_21 (by decide) (fun c_5 => ?_) (fun c_5 => ?_)
  · have hm := ite_t c_5 hm
    refine V_iconst C (v := (1 : Int32)) dX1_fits_24 (by decide) ?_
    refine V_goto C 29 dX1_fits_25 (by decide) ?_
    cases hm
    exact hR _ _ rfl dX1_fits_29
  · have hm := ite_f c_5 hm
    refine V_iconst C (v := (0 : Int32)) dX1_fits_28 (by decide) ?_
    cases hm
    exact hR _ _ rfl dX1_fits_29
theorem hdX1_fits : yX1_fits.cls = RX1 ∧ yX1_fits.cls ≠ "java/lang/invoke/MethodHandle" ∧ yX1_fits.cls ≠ "java/lang/invoke/VarHandle" ∧ (parseMethodDescriptor yX1_fits.desc).map (fun d => d.parameters.length) = some 2 := by decide +kernel
-- RodBoard$Clerk.isRight(I)Z
theorem uX1_isRight_X1 : ∀ w ∈ wsX10, w ∈ wsX1_isRight := fun _ h => List.mem_cons_of_mem _ (List.mem_append_left _ (List.mem_append_right _ h))
theorem mX1_isRight_1 : Cond.fieldLink RX1 12 "RodBoard$Clerk" "course" "LRodBoard$Course;" ∈ wsX1_isRight := List.mem_of_getElem? (i := 1) rfl
def fX1_isRight_L27b (x1 : Int32) (s_course_cells : Nat → Int64) (s_course_notes : Nat → Int32) (x2 : Int32) : Option (((Int32)) ⊕ ((Unit) ⊕ ((Int32)))) := if x2 < (8 : Int32) then Option.bind (fX1_fits x1 x2 s_course_cells s_course_notes) (fun r_9 => if r_9 = (0 : Int32) then some (Sum.inr (Sum.inr (0 : Int32))) else some (Sum.inl (x2 + (1 : Int32)))) else some (Sum.inr (Sum.inl ()))
def fX1_isRight_L27 (x1 : Int32) (s_course_cells : Nat → Int64) (s_course_notes : Nat → Int32) : ((Int32)) → Option (((Int32)) ⊕ ((Unit) ⊕ ((Int32)))) := fun e => fX1_isRight_L27b x1 s_course_cells s_course_notes e
set_option maxHeartbeats 4000000 in
set_option maxRecDepth 100000 in
theorem bX1_isRight_L27 {Γ : KT} (C : CX Γ cX1_isRight 3 wsX1_isRight RX1 ({ frames := 5, cells := 0, slots := 0, locals := 120 } : Room)) (h0 : Nat) (a_s_course : Nat) (a_s_course_cells : Nat) (a_s_course_notes : Nat) (x1 : Int32) (s_course_boards : Int32) (s_course_cells : Nat → Int64) (s_course_notes : Nat → Int32) (x2 : Int32) (x : ((Int32)) ⊕ ((Unit) ⊕ ((Int32)))) (hm : fX1_isRight_L27b x1 s_course_cells s_course_notes x2 = some x) (hb : (∀ (x2' : Int32), x = Sum.inl x2' → V Γ 3 0 0 27 [(0, .ref h0), (1, .int x1), (2, .int x2')] [] [(h0, eO 1 [.ref a_s_course]), (a_s_course, eO 3 [.ref a_s_course_cells, .ref a_s_course_notes, .int s_course_boards]), (a_s_course_cells, eJ 392 s_course_cells), (a_s_course_notes, eI 288 s_course_notes)])) (he0 : (∀ (_ : Unit), x = Sum.inr (Sum.inl ()) → V Γ 3 0 0 50 [] [] [(h0, eO 1 [.ref a_s_course]), (a_s_course, eO 3 [.ref a_s_course_cells, .ref a_s_course_notes, .int s_course_boards]), (a_s_course_cells, eJ 392 s_course_cells), (a_s_course_notes, eI 288 s_course_notes)])) (her : (∀ (r' : Int32), x = Sum.inr (Sum.inr r') → (∀ (pc : Nat) (lv : List (Nat × Value)), narrow .boolean (.int r') = .int r' → decode cX1_isRight pc = .ok (.ireturn, 1) → V Γ 3 0 0 pc lv [.int r'] [(h0, eO 1 [.ref a_s_course]), (a_s_course, eO 3 [.ref a_s_course_cells, .ref a_s_course_notes, .int s_course_boards]), (a_s_course_cells, eJ 392 s_course_cells), (a_s_course_notes, eI 288 s_course_notes)]))) : V Γ 3 0 0 27 [(0, .ref h0), (1, .int x1), (2, .int x2)] [] [(h0, eO 1 [.ref a_s_course]), (a_s_course, eO 3 [.ref a_s_course_cells, .ref a_s_course_notes, .int s_course_boards]), (a_s_course_cells, eJ 392 s_course_cells), (a_s_course_notes, eI 288 s_course_notes)] := by
  unfold fX1_isRight_L27b at hm
  refine V_iload_n C 2 dX1_isRight_27 rfl rfl ?_
  refine V_bipush C (v := (8 : Int32)) dX1_isRight_28 (by decide) ?_
  refine V_icmp_ge C 50 dX1_isRight_30 (by decide) (fun c_8 => ?_) (fun c_8 => ?_)
  · have hm := ite_t c_8 hm
    refine V_aload_n C 0 dX1_isRight_33 rfl rfl ?_
    refine V_iload_n C 1 dX1_isRight_34 rfl rfl ?_
    refine V_iload_n C 2 dX1_isRight_35 rfl rfl ?_
    obtain ⟨r_9, hc_10, hm⟩ := bnd hm
    refine V_callVI C (As := [.int x1, .int x2]) (wr := []) (ws2 := [(h0, eO 1 [.ref a_s_course]), (a_s_course, eO 3 [.ref a_s_course_cells, .ref a_s_course_notes, .int s_course_boards]), (a_s_course_cells, eJ 392 s_course_cells), (a_s_course_notes, eI 288 s_course_notes)]) (kX1_fits h0 a_s_course a_s_course_cells a_s_course_notes s_course_boards s_course_cells s_course_notes x1 x2 r_9 hc_10) gX1_isRight_X1_fits rfl ⟨rfl, rfl⟩ hdX1_fits ⟨Nat.le_of_ble_eq_true rfl, Nat.le_of_ble_eq_true rfl⟩ ⟨Nat.zero_le _, Nat.zero_le _⟩ 0 rfl rfl [0, 1, 2, 3] [] [0, 1, 2, 3] rfl rfl ⟨rfl, rfl, rfl⟩ (by decide) rfl rfl (Nat.le_of_ble_eq_true rfl) dX1_isRight_36 ?_
    refine V_if_ne C 44 dX1_isRight_39 (by decide) (fun c_11 => ?_) (fun c_11 => ?_)
    · have hm := ite_t c_11 hm
      refine V_iconst C (v := (0 : Int32)) dX1_isRight_42 (by decide) ?_
      exact her (0 : Int32) (Option.some.inj hm).symm _ _ rfl dX1_isRight_43
    · have hm := ite_f c_11 hm
      refine V_iinc C 2 (v := x2 + (1 : Int32)) (lv' := [(2, .int (x2 + (1 : Int32))), (0, .ref h0), (1, .int x1)]) dX1_isRight_44 rfl rfl (by decide) rfl ?_
      refine V_goto C 27 dX1_isRight_47 (by decide) ?_
      refine V_lv [1, 2, 0] rfl ?_
      exact hb (x2 + (1 : Int32)) (Option.some.inj hm).symm
  · have hm := ite_f c_8 hm
    refine V_lv [] rfl ?_
    exact he0 () (Option.some.inj hm).symm
theorem lX1_isRight_L27 {Γ : KT} (C : CX Γ cX1_isRight 3 wsX1_isRight RX1 ({ frames := 5, cells := 0, slots := 0, locals := 120 } : Room)) (h0 : Nat) (a_s_course : Nat) (a_s_course_cells : Nat) (a_s_course_notes : Nat) (x1 : Int32) (s_course_boards : Int32) (s_course_cells : Nat → Int64) (s_course_notes : Nat → Int32) (x2 : Int32) (N : Nat) (e : (Unit) ⊕ ((Int32))) (hN : itr (fX1_isRight_L27 x1 s_course_cells s_course_notes) N x2 = some e) (he0 : (∀ (_ : Unit), e = Sum.inl () → V Γ 3 0 0 50 [] [] [(h0, eO 1 [.ref a_s_course]), (a_s_course, eO 3 [.ref a_s_course_cells, .ref a_s_course_notes, .int s_course_boards]), (a_s_course_cells, eJ 392 s_course_cells), (a_s_course_notes, eI 288 s_course_notes)])) (her : (∀ (r' : Int32), e = Sum.inr r' → (∀ (pc : Nat) (lv : List (Nat × Value)), narrow .boolean (.int r') = .int r' → decode cX1_isRight pc = .ok (.ireturn, 1) → V Γ 3 0 0 pc lv [.int r'] [(h0, eO 1 [.ref a_s_course]), (a_s_course, eO 3 [.ref a_s_course_cells, .ref a_s_course_notes, .int s_course_boards]), (a_s_course_cells, eJ 392 s_course_cells), (a_s_course_notes, eI 288 s_course_notes)]))) : V Γ 3 0 0 27 [(0, .ref h0), (1, .int x1), (2, .int x2)] [] [(h0, eO 1 [.ref a_s_course]), (a_s_course, eO 3 [.ref a_s_course_cells, .ref a_s_course_notes, .int s_course_boards]), (a_s_course_cells, eJ 392 s_course_cells), (a_s_course_notes, eI 288 s_course_notes)] := by
  induction N generalizing x2 with
  | zero => exact absurd hN (fun h => itr_0 h)
  | succ N ih =>
    obtain ⟨x, hx, hN⟩ := itr_s hN
    refine bX1_isRight_L27 C h0 a_s_course a_s_course_cells a_s_course_notes x1 s_course_boards s_course_cells s_course_notes x2 x hx (fun x2' h => ih x2' (by subst h; exact hN)) (fun _ h => he0 () (by subst h; exact (Option.some.inj hN).symm)) (fun y0 h => her y0 (by subst h; exact (Option.some.inj hN).symm))
def fX1_isRight (p0 : Int32) (s_course_boards : Int32) (s_course_cells : Nat → Int64) (s_course_notes : Nat → Int32) : Option ((Int32)) := if p0 < (0 : Int32) then some (0 : Int32) else Option.bind (fX3_steps s_course_boards) (fun r_2 => if p0 < r_2 then Option.bind (fX1_isDark p0 s_course_cells) (fun r_5 => if r_5 = (0 : Int32) then Option.bind (itr (fX1_isRight_L27 p0 s_course_cells s_course_notes) KF (0 : Int32)) (Sum.elim (fun (_ : Unit) => some (1 : Int32)) (fun rr_14 => some rr_14)) else some (0 : Int32)) else some (0 : Int32))
set_option maxHeartbeats 4000000 in
set_option maxRecDepth 100000 in
theorem kX1_isRight {l : Launch} (h0 : Nat) (a_s_course : Nat) (a_s_course_cells : Nat) (a_s_course_notes : Nat) (s_course_boards : Int32) (s_course_cells : Nat → Int64) (s_course_notes : Nat → Int32) (p0 : Int32) (r : Int32) (hm : fX1_isRight p0 s_course_boards s_course_cells s_course_notes = some r) : CtI l yX1_isRight wsX1_isRight ({ frames := 5, cells := 0, slots := 0, locals := 120 } : Room) [.ref h0, .int p0] [(h0, eO 1 [.ref a_s_course]), (a_s_course, eO 3 [.ref a_s_course_cells, .ref a_s_course_notes, .int s_course_boards]), (a_s_course_cells, eJ 392 s_course_cells), (a_s_course_notes, eI 288 s_course_notes)] r [(h0, eO 1 [.ref a_s_course]), (a_s_course, eO 3 [.ref a_s_course_cells, .ref a_s_course_notes, .int s_course_boards]), (a_s_course_cells, eJ 392 s_course_cells), (a_s_course_notes, eI 288 s_course_notes)] := by
  refine CtI_of (cc := cX1_isRight) (maxL := 3) (ty := .boolean) (own := RX1) rfl (by decide) rfl (lv0 := [(0, .ref h0), (1, .int p0)]) rfl (Nat.le_of_ble_eq_true rfl) (fun Γ hL C hR => ?_)
  subst hL
  unfold fX1_isRight at hm
  refine V_iload_n C 1 dX1_isRight_0 rfl rfl ?_
  refine V_if_lt C 23 dX1_isRight_1 (by decide) (fun c_1 => ?_) (fun c_1 => ?_)
  · have hm := ite_t c_1 hm
    refine V_iconst C (v := (0 : Int32)) dX1_isRight_23 (by decide) ?_
    cases hm
    exact hR _ _ rfl dX1_isRight_24
  · have hm := ite_f c_1 hm
    refine V_iload_n C 1 dX1_isRight_4 rfl rfl ?_
    refine V_aload_n C 0 dX1_isRight_5 rfl rfl ?_
    refine V_get C uX1_isRight_X1 0 0 rfl rfl (by decide) mX1_isRight_1 rfl dX1_isRight_6 ?_
    obtain ⟨r_2, hc_3, hm⟩ := bnd hm
    refine V_callVI C (As := []) (wr := [(h0, eO 1 [.ref a_s_course])]) (ws2 := [(h0, eO 1 [.ref a_s_course]), (a_s_course, eO 3 [.ref a_s_course_cells, .ref a_s_course_notes, .int s_course_boards]), (a_s_course_cells, eJ 392 s_course_cells), (a_s_course_notes, eI 288 s_course_notes)]) (kX3_steps a_s_course a_s_course_cells a_s_course_notes s_course_boards s_course_cells s_course_notes r_2 hc_3) gX1_isRight_X3_steps rfl ⟨rfl, rfl⟩ hdX3_steps ⟨Nat.le_of_ble_eq_true rfl, Nat.le_of_ble_eq_true rfl⟩ ⟨Nat.zero_le _, Nat.zero_le _⟩ 0 rfl rfl [1, 2, 3] [0] [0, 1, 2, 3] rfl rfl ⟨rfl, rfl, rfl⟩ (by decide) rfl rfl (Nat.le_of_ble_eq_true rfl) dX1_isRight_9 ?_
    refine V_icmp_ge C 23 dX1_isRight_12 (by decide) (fun c_4 => ?_) (fun c_4 => ?_)
    · have hm := ite_t c_4 hm
      refine V_aload_n C 0 dX1_isRight_15 rfl rfl ?_
      refine V_iload_n C 1 dX1_isRight_16 rfl rfl ?_
      obtain ⟨r_5, hc_6, hm⟩ := bnd hm
      refine V_callVI C (As := [.int p0]) (wr := []) (ws2 := [(h0, eO 1 [.ref a_s_course]), (a_s_course, eO 3 [.ref a_s_course_cells, .ref a_s_course_notes, .int s_course_boards]), (a_s_course_cells, eJ 392 s_course_cells), (a_s_course_notes, eI 288 s_course_notes)]) (kX1_isDark h0 a_s_course a_s_course_cells a_s_course_notes s_course_boards s_course_cells s_course_notes p0 r_5 hc_6) gX1_isRight_X1_isDark rfl ⟨rfl, rfl⟩ hdX1_isDark ⟨Nat.le_of_ble_eq_true rfl, Nat.le_of_ble_eq_true rfl⟩ ⟨Nat.zero_le _, Nat.zero_le _⟩ 0 rfl rfl [0, 1, 2, 3] [] [0, 1, 2, 3] rfl rfl ⟨rfl, rfl, rfl⟩ (by decide) rfl rfl (Nat.le_of_ble_eq_true rfl) dX1_isRight_17 ?_
      refine V_if_eq C 25 dX1_isRight_20 (by decide) (fun c_7 => ?_) (fun c_7 => ?_)
      · have hm := ite_t c_7 hm
        refine V_iconst C (v := (0 : Int32)) dX1_isRight_25 (by decide) ?_
        refine V_istore_n C (lv' := [(2, .int (0 : Int32)), (0, .ref h0), (1, .int p0)]) dX1_isRight_26 rfl (by decide) rfl ?_
        obtain ⟨e_12, hE_13, hm⟩ := bnd hm
        refine V_lv [1, 2, 0] rfl ?_
        refine lX1_isRight_L27 C h0 a_s_course a_s_course_cells a_s_course_notes p0 s_course_boards s_course_cells s_course_notes (0 : Int32) KF _ hE_13 ?_ ?_
        · intro _ hq
          subst hq
          -- exit
          dsimp only [Sum.elim_inl, Sum.elim_inr, un2, un3, un4, un5, un6, un7, un8, un9, un10, un11] at hm
          refine V_iconst C (v := (1 : Int32)) dX1_isRight_50 (by decide) ?_
          cases hm
          exact hR _ _ rfl dX1_isRight_51
        · intro rr_14 hq
          subst hq
          dsimp only [Sum.elim_inl, Sum.elim_inr, un2, un3, un4, un5, un6, un7, un8, un9, un10, un11] at hm
          cases hm
          exact hR
      · have hm := ite_f c_7 hm
        refine V_iconst C (v := (0 : Int32)) dX1_isRight_23 (by decide) ?_
        cases hm
        exact hR _ _ rfl dX1_isRight_24
    · have hm := ite_f c_4 hm
      refine V_iconst C (v := (0 : Int32)) dX1_isRight_23 (by decide) ?_
      cases hm
      exact hR _ _ rfl dX1_isRight_24
theorem hdX1_isRight : yX1_isRight.cls = RX1 ∧ yX1_isRight.cls ≠ "java/lang/invoke/MethodHandle" ∧ yX1_isRight.cls ≠ "java/lang/invoke/VarHandle" ∧ (parseMethodDescriptor yX1_isRight.desc).map (fun d => d.parameters.length) = some 1 := by decide +kernel
-- RodBoard$Clerk.blamed()I
theorem uX1_blamed_X1 : ∀ w ∈ wsX10, w ∈ wsX1_blamed := fun _ h => List.mem_cons_of_mem _ (List.mem_append_left _ (List.mem_append_right _ h))
theorem mX1_blamed_1 : Cond.fieldLink RX1 12 "RodBoard$Clerk" "course" "LRodBoard$Course;" ∈ wsX1_blamed := List.mem_of_getElem? (i := 1) rfl
def fX1_blamed_L2b (s_course_boards : Int32) (s_course_cells : Nat → Int64) (s_course_notes : Nat → Int32) (x1 : Int32) : Option (((Int32)) ⊕ ((Unit) ⊕ ((Int32)))) := Option.bind (fX3_steps s_course_boards) (fun r_1 => if x1 < r_1 then Option.bind (fX1_isDark x1 s_course_cells) (fun r_4 => if r_4 = (0 : Int32) then Option.bind (fX1_isRight x1 s_course_boards s_course_cells s_course_notes) (fun r_7 => if r_7 = (0 : Int32) then some (Sum.inr (Sum.inr (x1 + (1 : Int32)))) else some (Sum.inl (x1 + (1 : Int32)))) else some (Sum.inl (x1 + (1 : Int32)))) else some (Sum.inr (Sum.inl ())))
def fX1_blamed_L2 (s_course_boards : Int32) (s_course_cells : Nat → Int64) (s_course_notes : Nat → Int32) : ((Int32)) → Option (((Int32)) ⊕ ((Unit) ⊕ ((Int32)))) := fun e => fX1_blamed_L2b s_course_boards s_course_cells s_course_notes e
set_option maxHeartbeats 4000000 in
set_option maxRecDepth 100000 in
theorem bX1_blamed_L2 {Γ : KT} (C : CX Γ cX1_blamed 2 wsX1_blamed RX1 ({ frames := 6, cells := 0, slots := 0, locals := 142 } : Room)) (h0 : Nat) (a_s_course : Nat) (a_s_course_cells : Nat) (a_s_course_notes : Nat) (s_course_boards : Int32) (s_course_cells : Nat → Int64) (s_course_notes : Nat → Int32) (x1 : Int32) (x : ((Int32)) ⊕ ((Unit) ⊕ ((Int32)))) (hm : fX1_blamed_L2b s_course_boards s_course_cells s_course_notes x1 = some x) (hb : (∀ (x1' : Int32), x = Sum.inl x1' → V Γ 2 0 0 2 [(0, .ref h0), (1, .int x1')] [] [(h0, eO 1 [.ref a_s_course]), (a_s_course, eO 3 [.ref a_s_course_cells, .ref a_s_course_notes, .int s_course_boards]), (a_s_course_cells, eJ 392 s_course_cells), (a_s_course_notes, eI 288 s_course_notes)])) (he0 : (∀ (_ : Unit), x = Sum.inr (Sum.inl ()) → V Γ 2 0 0 39 [] [] [(h0, eO 1 [.ref a_s_course]), (a_s_course, eO 3 [.ref a_s_course_cells, .ref a_s_course_notes, .int s_course_boards]), (a_s_course_cells, eJ 392 s_course_cells), (a_s_course_notes, eI 288 s_course_notes)])) (her : (∀ (r' : Int32), x = Sum.inr (Sum.inr r') → (∀ (pc : Nat) (lv : List (Nat × Value)), narrow .int (.int r') = .int r' → decode cX1_blamed pc = .ok (.ireturn, 1) → V Γ 2 0 0 pc lv [.int r'] [(h0, eO 1 [.ref a_s_course]), (a_s_course, eO 3 [.ref a_s_course_cells, .ref a_s_course_notes, .int s_course_boards]), (a_s_course_cells, eJ 392 s_course_cells), (a_s_course_notes, eI 288 s_course_notes)]))) : V Γ 2 0 0 2 [(0, .ref h0), (1, .int x1)] [] [(h0, eO 1 [.ref a_s_course]), (a_s_course, eO 3 [.ref a_s_course_cells, .ref a_s_course_notes, .int s_course_boards]), (a_s_course_cells, eJ 392 s_course_cells), (a_s_course_notes, eI 288 s_course_notes)] := by
  unfold fX1_blamed_L2b at hm
  refine V_iload_n C 1 dX1_blamed_2 rfl rfl ?_
  refine V_aload_n C 0 dX1_blamed_3 rfl rfl ?_
  refine V_get C uX1_blamed_X1 0 0 rfl rfl (by decide) mX1_blamed_1 rfl dX1_blamed_4 ?_
  obtain ⟨r_1, hc_2, hm⟩ := bnd hm
  refine V_callVI C (As := []) (wr := [(h0, eO 1 [.ref a_s_course])]) (ws2 := [(h0, eO 1 [.ref a_s_course]), (a_s_course, eO 3 [.ref a_s_course_cells, .ref a_s_course_notes, .int s_course_boards]), (a_s_course_cells, eJ 392 s_course_cells), (a_s_course_notes, eI 288 s_course_notes)]) (kX3_steps a_s_course a_s_course_cells a_s_course_notes s_course_boards s_course_cells s_course_notes r_1 hc_2) gX1_blamed_X3_steps rfl ⟨rfl, rfl⟩ hdX3_steps ⟨Nat.le_of_ble_eq_true rfl, Nat.le_of_ble_eq_true rfl⟩ ⟨Nat.zero_le _, Nat.zero_le _⟩ 0 rfl rfl [1, 2, 3] [0] [0, 1, 2, 3] rfl rfl ⟨rfl, rfl, rfl⟩ (by decide) rfl rfl (Nat.le_of_ble_eq_true rfl) dX1_blamed_7 ?_
  refine V_icmp_ge C 39 dX1_blamed_10 (by decide) (fun c_3 => ?_) (fun c_3 => ?_)
  · have hm := ite_t c_3 hm
    refine V_aload_n C 0 dX1_blamed_13 rfl rfl ?_
    refine V_iload_n C 1 dX1_blamed_14 rfl rfl ?_
    obtain ⟨r_4, hc_5, hm⟩ := bnd hm
    refine V_callVI C (As := [.int x1]) (wr := []) (ws2 := [(h0, eO 1 [.ref a_s_course]), (a_s_course, eO 3 [.ref a_s_course_cells, .ref a_s_course_notes, .int s_course_boards]), (a_s_course_cells, eJ 392 s_course_cells), (a_s_course_notes, eI 288 s_course_notes)]) (kX1_isDark h0 a_s_course a_s_course_cells a_s_course_notes s_course_boards s_course_cells s_course_notes x1 r_4 hc_5) gX1_blamed_X1_isDark rfl ⟨rfl, rfl⟩ hdX1_isDark ⟨Nat.le_of_ble_eq_true rfl, Nat.le_of_ble_eq_true rfl⟩ ⟨Nat.zero_le _, Nat.zero_le _⟩ 0 rfl rfl [0, 1, 2, 3] [] [0, 1, 2, 3] rfl rfl ⟨rfl, rfl, rfl⟩ (by decide) rfl rfl (Nat.le_of_ble_eq_true rfl) dX1_blamed_15 ?_
    refine V_if_ne C 33 dX1_blamed_18 (by decide) (fun c_6 => ?_) (fun c_6 => ?_)
    · have hm := ite_t c_6 hm
      refine V_aload_n C 0 dX1_blamed_21 rfl rfl ?_
      refine V_iload_n C 1 dX1_blamed_22 rfl rfl ?_
      obtain ⟨r_7, hc_8, hm⟩ := bnd hm
      refine V_callVI C (As := [.int x1]) (wr := []) (ws2 := [(h0, eO 1 [.ref a_s_course]), (a_s_course, eO 3 [.ref a_s_course_cells, .ref a_s_course_notes, .int s_course_boards]), (a_s_course_cells, eJ 392 s_course_cells), (a_s_course_notes, eI 288 s_course_notes)]) (kX1_isRight h0 a_s_course a_s_course_cells a_s_course_notes s_course_boards s_course_cells s_course_notes x1 r_7 hc_8) gX1_blamed_X1_isRight rfl ⟨rfl, rfl⟩ hdX1_isRight ⟨Nat.le_of_ble_eq_true rfl, Nat.le_of_ble_eq_true rfl⟩ ⟨Nat.zero_le _, Nat.zero_le _⟩ 0 rfl rfl [0, 1, 2, 3] [] [0, 1, 2, 3] rfl rfl ⟨rfl, rfl, rfl⟩ (by decide) rfl rfl (Nat.le_of_ble_eq_true rfl) dX1_blamed_23 ?_
      refine V_if_ne C 33 dX1_blamed_26 (by decide) (fun c_9 => ?_) (fun c_9 => ?_)
      · have hm := ite_t c_9 hm
        refine V_iload_n C 1 dX1_blamed_29 rfl rfl ?_
        refine V_iconst C (v := (1 : Int32)) dX1_blamed_30 (by decide) ?_
        refine V_iadd C dX1_blamed_31 ?_
        exact her (x1 + (1 : Int32)) (Option.some.inj hm).symm _ _ rfl dX1_blamed_32
      · have hm := ite_f c_9 hm
        refine V_iinc C 1 (v := x1 + (1 : Int32)) (lv' := [(1, .int (x1 + (1 : Int32))), (0, .ref h0)]) dX1_blamed_33 rfl rfl (by decide) rfl ?_
        refine V_goto C 2 dX1_blamed_36 (by decide) ?_
        refine V_lv [1, 0] rfl ?_
        exact hb (x1 + (1 : Int32)) (Option.some.inj hm).symm
    · have hm := ite_f c_6 hm
      refine V_iinc C 1 (v := x1 + (1 : Int32)) (lv' := [(1, .int (x1 + (1 : Int32))), (0, .ref h0)]) dX1_blamed_33 rfl rfl (by decide) rfl ?_
      refine V_goto C 2 dX1_blamed_36 (by decide) ?_
      refine V_lv [1, 0] rfl ?_
      exact hb (x1 + (1 : Int32)) (Option.some.inj hm).symm
  · have hm := ite_f c_3 hm
    refine V_lv [] rfl ?_
    exact he0 () (Option.some.inj hm).symm
theorem lX1_blamed_L2 {Γ : KT} (C : CX Γ cX1_blamed 2 wsX1_blamed RX1 ({ frames := 6, cells := 0, slots := 0, locals := 142 } : Room)) (h0 : Nat) (a_s_course : Nat) (a_s_course_cells : Nat) (a_s_course_notes : Nat) (s_course_boards : Int32) (s_course_cells : Nat → Int64) (s_course_notes : Nat → Int32) (x1 : Int32) (N : Nat) (e : (Unit) ⊕ ((Int32))) (hN : itr (fX1_blamed_L2 s_course_boards s_course_cells s_course_notes) N x1 = some e) (he0 : (∀ (_ : Unit), e = Sum.inl () → V Γ 2 0 0 39 [] [] [(h0, eO 1 [.ref a_s_course]), (a_s_course, eO 3 [.ref a_s_course_cells, .ref a_s_course_notes, .int s_course_boards]), (a_s_course_cells, eJ 392 s_course_cells), (a_s_course_notes, eI 288 s_course_notes)])) (her : (∀ (r' : Int32), e = Sum.inr r' → (∀ (pc : Nat) (lv : List (Nat × Value)), narrow .int (.int r') = .int r' → decode cX1_blamed pc = .ok (.ireturn, 1) → V Γ 2 0 0 pc lv [.int r'] [(h0, eO 1 [.ref a_s_course]), (a_s_course, eO 3 [.ref a_s_course_cells, .ref a_s_course_notes, .int s_course_boards]), (a_s_course_cells, eJ 392 s_course_cells), (a_s_course_notes, eI 288 s_course_notes)]))) : V Γ 2 0 0 2 [(0, .ref h0), (1, .int x1)] [] [(h0, eO 1 [.ref a_s_course]), (a_s_course, eO 3 [.ref a_s_course_cells, .ref a_s_course_notes, .int s_course_boards]), (a_s_course_cells, eJ 392 s_course_cells), (a_s_course_notes, eI 288 s_course_notes)] := by
  induction N generalizing x1 with
  | zero => exact absurd hN (fun h => itr_0 h)
  | succ N ih =>
    obtain ⟨x, hx, hN⟩ := itr_s hN
    refine bX1_blamed_L2 C h0 a_s_course a_s_course_cells a_s_course_notes s_course_boards s_course_cells s_course_notes x1 x hx (fun x1' h => ih x1' (by subst h; exact hN)) (fun _ h => he0 () (by subst h; exact (Option.some.inj hN).symm)) (fun y0 h => her y0 (by subst h; exact (Option.some.inj hN).symm))
def fX1_blamed (s_course_boards : Int32) (s_course_cells : Nat → Int64) (s_course_notes : Nat → Int32) : Option ((Int32)) := Option.bind (itr (fX1_blamed_L2 s_course_boards s_course_cells s_course_notes) KF (0 : Int32)) (Sum.elim (fun (_ : Unit) => some (-6 : Int32)) (fun rr_12 => some rr_12))
set_option maxHeartbeats 4000000 in
set_option maxRecDepth 100000 in
theorem kX1_blamed {l : Launch} (h0 : Nat) (a_s_course : Nat) (a_s_course_cells : Nat) (a_s_course_notes : Nat) (s_course_boards : Int32) (s_course_cells : Nat → Int64) (s_course_notes : Nat → Int32) (r : Int32) (hm : fX1_blamed s_course_boards s_course_cells s_course_notes = some r) : CtI l yX1_blamed wsX1_blamed ({ frames := 6, cells := 0, slots := 0, locals := 142 } : Room) [.ref h0] [(h0, eO 1 [.ref a_s_course]), (a_s_course, eO 3 [.ref a_s_course_cells, .ref a_s_course_notes, .int s_course_boards]), (a_s_course_cells, eJ 392 s_course_cells), (a_s_course_notes, eI 288 s_course_notes)] r [(h0, eO 1 [.ref a_s_course]), (a_s_course, eO 3 [.ref a_s_course_cells, .ref a_s_course_notes, .int s_course_boards]), (a_s_course_cells, eJ 392 s_course_cells), (a_s_course_notes, eI 288 s_course_notes)] := by
  refine CtI_of (cc := cX1_blamed) (maxL := 2) (ty := .int) (own := RX1) rfl (by decide) rfl (lv0 := [(0, .ref h0)]) rfl (Nat.le_of_ble_eq_true rfl) (fun Γ hL C hR => ?_)
  subst hL
  unfold fX1_blamed at hm
  refine V_iconst C (v := (0 : Int32)) dX1_blamed_0 (by decide) ?_
  refine V_istore_n C (lv' := [(1, .int (0 : Int32)), (0, .ref h0)]) dX1_blamed_1 rfl (by decide) rfl ?_
  obtain ⟨e_10, hE_11, hm⟩ := bnd hm
  refine V_lv [1, 0] rfl ?_
  refine lX1_blamed_L2 C h0 a_s_course a_s_course_cells a_s_course_notes s_course_boards s_course_cells s_course_notes (0 : Int32) KF _ hE_11 ?_ ?_
  · intro _ hq
    subst hq
    -- exit
    dsimp only [Sum.elim_inl, Sum.elim_inr, un2, un3, un4, un5, un6, un7, un8, un9, un10, un11] at hm
    refine V_bipush C (v := (-6 : Int32)) dX1_blamed_39 (by decide) ?_
    cases hm
    exact hR _ _ rfl dX1_blamed_41
  · intro rr_12 hq
    subst hq
    dsimp only [Sum.elim_inl, Sum.elim_inr, un2, un3, un4, un5, un6, un7, un8, un9, un10, un11] at hm
    cases hm
    exact hR
theorem hdX1_blamed : yX1_blamed.cls = RX1 ∧ yX1_blamed.cls ≠ "java/lang/invoke/MethodHandle" ∧ yX1_blamed.cls ≠ "java/lang/invoke/VarHandle" ∧ (parseMethodDescriptor yX1_blamed.desc).map (fun d => d.parameters.length) = some 0 := by decide +kernel
-- RodBoard$Clerk.mayMend(III)Z
theorem uX1_mayMend_X1 : ∀ w ∈ wsX10, w ∈ wsX1_mayMend := fun _ h => List.mem_cons_of_mem _ (List.mem_append_left _ (List.mem_append_right _ h))
theorem mX1_mayMend_1 : Cond.fieldLink RX1 12 "RodBoard$Clerk" "course" "LRodBoard$Course;" ∈ wsX1_mayMend := List.mem_of_getElem? (i := 1) rfl
def fX1_mayMend_L27b (x1 : Int32) (x3 : Int32) (x4 : Int32) (s_course_cells : Nat → Int64) (s_course_notes : Nat → Int32) (x5 : Int32) : Option (((Int32)) ⊕ ((Unit) ⊕ ((Int32)))) := if x5 < (8 : Int32) then if x5 = x3 then some (Sum.inl (x5 + (1 : Int32))) else if x4 = (0 : Int32) then Option.bind (fX1_fits x1 x5 s_course_cells s_course_notes) (fun r_8 => if r_8 = (0 : Int32) then some (Sum.inr (Sum.inr (0 : Int32))) else some (Sum.inl (x5 + (1 : Int32)))) else Option.bind (fX3_noted x1 (1 : Int32) s_course_notes) (fun r_11 => if x5 = r_11 then some (Sum.inl (x5 + (1 : Int32))) else Option.bind (fX1_fits x1 x5 s_course_cells s_course_notes) (fun r_14 => if r_14 = (0 : Int32) then some (Sum.inr (Sum.inr (0 : Int32))) else some (Sum.inl (x5 + (1 : Int32))))) else some (Sum.inr (Sum.inl ()))
def fX1_mayMend_L27 (x1 : Int32) (x3 : Int32) (x4 : Int32) (s_course_cells : Nat → Int64) (s_course_notes : Nat → Int32) : ((Int32)) → Option (((Int32)) ⊕ ((Unit) ⊕ ((Int32)))) := fun e => fX1_mayMend_L27b x1 x3 x4 s_course_cells s_course_notes e
set_option maxHeartbeats 4000000 in
set_option maxRecDepth 100000 in
theorem bX1_mayMend_L27 {Γ : KT} (C : CX Γ cX1_mayMend 6 wsX1_mayMend RX1 ({ frames := 5, cells := 0, slots := 0, locals := 120 } : Room)) (h0 : Nat) (a_s_course : Nat) (a_s_course_cells : Nat) (a_s_course_notes : Nat) (x1 : Int32) (x3 : Int32) (x4 : Int32) (s_course_boards : Int32) (s_course_cells : Nat → Int64) (s_course_notes : Nat → Int32) (x5 : Int32) (x : ((Int32)) ⊕ ((Unit) ⊕ ((Int32)))) (hm : fX1_mayMend_L27b x1 x3 x4 s_course_cells s_course_notes x5 = some x) (hb : (∀ (x5' : Int32), x = Sum.inl x5' → V Γ 6 0 0 27 [(0, .ref h0), (1, .int x1), (3, .int x3), (4, .int x4), (5, .int x5')] [] [(h0, eO 1 [.ref a_s_course]), (a_s_course, eO 3 [.ref a_s_course_cells, .ref a_s_course_notes, .int s_course_boards]), (a_s_course_cells, eJ 392 s_course_cells), (a_s_course_notes, eI 288 s_course_notes)])) (he0 : (∀ (_ : Unit), x = Sum.inr (Sum.inl ()) → V Γ 6 0 0 83 [] [] [(h0, eO 1 [.ref a_s_course]), (a_s_course, eO 3 [.ref a_s_course_cells, .ref a_s_course_notes, .int s_course_boards]), (a_s_course_cells, eJ 392 s_course_cells), (a_s_course_notes, eI 288 s_course_notes)])) (her : (∀ (r' : Int32), x = Sum.inr (Sum.inr r') → (∀ (pc : Nat) (lv : List (Nat × Value)), narrow .boolean (.int r') = .int r' → decode cX1_mayMend pc = .ok (.ireturn, 1) → V Γ 6 0 0 pc lv [.int r'] [(h0, eO 1 [.ref a_s_course]), (a_s_course, eO 3 [.ref a_s_course_cells, .ref a_s_course_notes, .int s_course_boards]), (a_s_course_cells, eJ 392 s_course_cells), (a_s_course_notes, eI 288 s_course_notes)]))) : V Γ 6 0 0 27 [(0, .ref h0), (1, .int x1), (3, .int x3), (4, .int x4), (5, .int x5)] [] [(h0, eO 1 [.ref a_s_course]), (a_s_course, eO 3 [.ref a_s_course_cells, .ref a_s_course_notes, .int s_course_boards]), (a_s_course_cells, eJ 392 s_course_cells), (a_s_course_notes, eI 288 s_course_notes)] := by
  unfold fX1_mayMend_L27b at hm
  refine V_iload C 4 dX1_mayMend_27 rfl ?_
  refine V_bipush C (v := (8 : Int32)) dX1_mayMend_29 (by decide) ?_
  refine V_icmp_ge C 83 dX1_mayMend_31 (by decide) (fun c_5 => ?_) (fun c_5 => ?_)
  · have hm := ite_t c_5 hm
    refine V_iload C 4 dX1_mayMend_34 rfl ?_
    refine V_iload_n C 2 dX1_mayMend_36 rfl rfl ?_
    refine V_icmp_ne C 43 dX1_mayMend_37 (by decide) (fun c_6 => ?_) (fun c_6 => ?_)
    · have hm := ite_t c_6 hm
      refine V_goto C 77 dX1_mayMend_40 (by decide) ?_
      refine V_iinc C 4 (v := x5 + (1 : Int32)) (lv' := [(5, .int (x5 + (1 : Int32))), (0, .ref h0), (1, .int x1), (3, .int x3), (4, .int x4)]) dX1_mayMend_77 rfl rfl (by decide) rfl ?_
      refine V_goto C 27 dX1_mayMend_80 (by decide) ?_
      refine V_lv [1, 2, 3, 4, 0] rfl ?_
      exact hb (x5 + (1 : Int32)) (Option.some.inj hm).symm
    · have hm := ite_f c_6 hm
      refine V_iload C 3 dX1_mayMend_43 rfl ?_
      refine V_if_eq C 65 dX1_mayMend_45 (by decide) (fun c_7 => ?_) (fun c_7 => ?_)
      · have hm := ite_t c_7 hm
        refine V_aload_n C 0 dX1_mayMend_65 rfl rfl ?_
        refine V_iload_n C 1 dX1_mayMend_66 rfl rfl ?_
        refine V_iload C 4 dX1_mayMend_67 rfl ?_
        obtain ⟨r_8, hc_9, hm⟩ := bnd hm
        refine V_callVI C (As := [.int x1, .int x5]) (wr := []) (ws2 := [(h0, eO 1 [.ref a_s_course]), (a_s_course, eO 3 [.ref a_s_course_cells, .ref a_s_course_notes, .int s_course_boards]), (a_s_course_cells, eJ 392 s_course_cells), (a_s_course_notes, eI 288 s_course_notes)]) (kX1_fits h0 a_s_course a_s_course_cells a_s_course_notes s_course_boards s_course_cells s_course_notes x1 x5 r_8 hc_9) gX1_mayMend_X1_fits rfl ⟨rfl, rfl⟩ hdX1_fits ⟨Nat.le_of_ble_eq_true rfl, Nat.le_of_ble_eq_true rfl⟩ ⟨Nat.zero_le _, Nat.zero_le _⟩ 0 rfl rfl [0, 1, 2, 3] [] [0, 1, 2, 3] rfl rfl ⟨rfl, rfl, rfl⟩ (by decide) rfl rfl (Nat.le_of_ble_eq_true rfl) dX1_mayMend_69 ?_
        refine V_if_ne C 77 dX1_mayMend_72 (by decide) (fun c_10 => ?_) (fun c_10 => ?_)
        · have hm := ite_t c_10 hm
          refine V_iconst C (v := (0 : Int32)) dX1_mayMend_75 (by decide) ?_
          exact her (0 : Int32) (Option.some.inj hm).symm _ _ rfl dX1_mayMend_76
        · have hm := ite_f c_10 hm
          refine V_iinc C 4 (v := x5 + (1 : Int32)) (lv' := [(5, .int (x5 + (1 : Int32))), (0, .ref h0), (1, .int x1), (3, .int x3), (4, .int x4)]) dX1_mayMend_77 rfl rfl (by decide) rfl ?_
          refine V_goto C 27 dX1_mayMend_80 (by decide) ?_
          refine V_lv [1, 2, 3, 4, 0] rfl ?_
          exact hb (x5 + (1 : Int32)) (Option.some.inj hm).symm
      · have hm := ite_f c_7 hm
        refine V_iload C 4 dX1_mayMend_48 rfl ?_
        refine V_aload_n C 0 dX1_mayMend_50 rfl rfl ?_
        refine V_get C uX1_mayMend_X1 0 0 rfl rfl (by decide) mX1_mayMend_1 rfl dX1_mayMend_51 ?_
        refine V_iload_n C 1 dX1_mayMend_54 rfl rfl ?_
        refine V_iconst C (v := (1 : Int32)) dX1_mayMend_55 (by decide) ?_
        obtain ⟨r_11, hc_12, hm⟩ := bnd hm
        refine V_callVI C (As := [.int x1, .int (1 : Int32)]) (wr := [(h0, eO 1 [.ref a_s_course])]) (ws2 := [(h0, eO 1 [.ref a_s_course]), (a_s_course, eO 3 [.ref a_s_course_cells, .ref a_s_course_notes, .int s_course_boards]), (a_s_course_cells, eJ 392 s_course_cells), (a_s_course_notes, eI 288 s_course_notes)]) (kX3_noted a_s_course a_s_course_cells a_s_course_notes s_course_boards s_course_cells s_course_notes x1 (1 : Int32) r_11 hc_12) gX1_mayMend_X3_noted rfl ⟨rfl, rfl⟩ hdX3_noted ⟨Nat.le_of_ble_eq_true rfl, Nat.le_of_ble_eq_true rfl⟩ ⟨Nat.zero_le _, Nat.zero_le _⟩ 0 rfl rfl [1, 2, 3] [0] [0, 1, 2, 3] rfl rfl ⟨rfl, rfl, rfl⟩ (by decide) rfl rfl (Nat.le_of_ble_eq_true rfl) dX1_mayMend_56 ?_
        refine V_icmp_ne C 65 dX1_mayMend_59 (by decide) (fun c_13 => ?_) (fun c_13 => ?_)
        · have hm := ite_t c_13 hm
          refine V_goto C 77 dX1_mayMend_62 (by decide) ?_
          refine V_iinc C 4 (v := x5 + (1 : Int32)) (lv' := [(5, .int (x5 + (1 : Int32))), (0, .ref h0), (1, .int x1), (3, .int x3), (4, .int x4)]) dX1_mayMend_77 rfl rfl (by decide) rfl ?_
          refine V_goto C 27 dX1_mayMend_80 (by decide) ?_
          refine V_lv [1, 2, 3, 4, 0] rfl ?_
          exact hb (x5 + (1 : Int32)) (Option.some.inj hm).symm
        · have hm := ite_f c_13 hm
          refine V_aload_n C 0 dX1_mayMend_65 rfl rfl ?_
          refine V_iload_n C 1 dX1_mayMend_66 rfl rfl ?_
          refine V_iload C 4 dX1_mayMend_67 rfl ?_
          obtain ⟨r_14, hc_15, hm⟩ := bnd hm
          refine V_callVI C (As := [.int x1, .int x5]) (wr := []) (ws2 := [(h0, eO 1 [.ref a_s_course]), (a_s_course, eO 3 [.ref a_s_course_cells, .ref a_s_course_notes, .int s_course_boards]), (a_s_course_cells, eJ 392 s_course_cells), (a_s_course_notes, eI 288 s_course_notes)]) (kX1_fits h0 a_s_course a_s_course_cells a_s_course_notes s_course_boards s_course_cells s_course_notes x1 x5 r_14 hc_15) gX1_mayMend_X1_fits rfl ⟨rfl, rfl⟩ hdX1_fits ⟨Nat.le_of_ble_eq_true rfl, Nat.le_of_ble_eq_true rfl⟩ ⟨Nat.zero_le _, Nat.zero_le _⟩ 0 rfl rfl [0, 1, 2, 3] [] [0, 1, 2, 3] rfl rfl ⟨rfl, rfl, rfl⟩ (by decide) rfl rfl (Nat.le_of_ble_eq_true rfl) dX1_mayMend_69 ?_
          refine V_if_ne C 77 dX1_mayMend_72 (by decide) (fun c_16 => ?_) (fun c_16 => ?_)
          · have hm := ite_t c_16 hm
            refine V_iconst C (v := (0 : Int32)) dX1_mayMend_75 (by decide) ?_
            exact her (0 : Int32) (Option.some.inj hm).symm _ _ rfl dX1_mayMend_76
          · have hm := ite_f c_16 hm
            refine V_iinc C 4 (v := x5 + (1 : Int32)) (lv' := [(5, .int (x5 + (1 : Int32))), (0, .ref h0), (1, .int x1), (3, .int x3), (4, .int x4)]) dX1_mayMend_77 rfl rfl (by decide) rfl ?_
            refine V_goto C 27 dX1_mayMend_80 (by decide) ?_
            refine V_lv [1, 2, 3, 4, 0] rfl ?_
            exact hb (x5 + (1 : Int32)) (Option.some.inj hm).symm
  · have hm := ite_f c_5 hm
    refine V_lv [] rfl ?_
    exact he0 () (Option.some.inj hm).symm
theorem lX1_mayMend_L27 {Γ : KT} (C : CX Γ cX1_mayMend 6 wsX1_mayMend RX1 ({ frames := 5, cells := 0, slots := 0, locals := 120 } : Room)) (h0 : Nat) (a_s_course : Nat) (a_s_course_cells : Nat) (a_s_course_notes : Nat) (x1 : Int32) (x3 : Int32) (x4 : Int32) (s_course_boards : Int32) (s_course_cells : Nat → Int64) (s_course_notes : Nat → Int32) (x5 : Int32) (N : Nat) (e : (Unit) ⊕ ((Int32))) (hN : itr (fX1_mayMend_L27 x1 x3 x4 s_course_cells s_course_notes) N x5 = some e) (he0 : (∀ (_ : Unit), e = Sum.inl () → V Γ 6 0 0 83 [] [] [(h0, eO 1 [.ref a_s_course]), (a_s_course, eO 3 [.ref a_s_course_cells, .ref a_s_course_notes, .int s_course_boards]), (a_s_course_cells, eJ 392 s_course_cells), (a_s_course_notes, eI 288 s_course_notes)])) (her : (∀ (r' : Int32), e = Sum.inr r' → (∀ (pc : Nat) (lv : List (Nat × Value)), narrow .boolean (.int r') = .int r' → decode cX1_mayMend pc = .ok (.ireturn, 1) → V Γ 6 0 0 pc lv [.int r'] [(h0, eO 1 [.ref a_s_course]), (a_s_course, eO 3 [.ref a_s_course_cells, .ref a_s_course_notes, .int s_course_boards]), (a_s_course_cells, eJ 392 s_course_cells), (a_s_course_notes, eI 288 s_course_notes)]))) : V Γ 6 0 0 27 [(0, .ref h0), (1, .int x1), (3, .int x3), (4, .int x4), (5, .int x5)] [] [(h0, eO 1 [.ref a_s_course]), (a_s_course, eO 3 [.ref a_s_course_cells, .ref a_s_course_notes, .int s_course_boards]), (a_s_course_cells, eJ 392 s_course_cells), (a_s_course_notes, eI 288 s_course_notes)] := by
  induction N generalizing x5 with
  | zero => exact absurd hN (fun h => itr_0 h)
  | succ N ih =>
    obtain ⟨x, hx, hN⟩ := itr_s hN
    refine bX1_mayMend_L27 C h0 a_s_course a_s_course_cells a_s_course_notes x1 x3 x4 s_course_boards s_course_cells s_course_notes x5 x hx (fun x5' h => ih x5' (by subst h; exact hN)) (fun _ h => he0 () (by subst h; exact (Option.some.inj hN).symm)) (fun y0 h => her y0 (by subst h; exact (Option.some.inj hN).symm))
def fX1_mayMend_B22 (x1 : Int32) (x3 : Int32) (s0 : Int32) (s_course_cells : Nat → Int64) (s_course_notes : Nat → Int32) : Option ((Int32)) := Option.bind (itr (fX1_mayMend_L27 x1 x3 s0 s_course_cells s_course_notes) KF (0 : Int32)) (Sum.elim (fun (_ : Unit) => some (1 : Int32)) (fun rr_19 => some rr_19))
set_option maxHeartbeats 4000000 in
set_option maxRecDepth 100000 in
theorem jX1_mayMend_B22 {Γ : KT} (C : CX Γ cX1_mayMend 6 wsX1_mayMend RX1 ({ frames := 5, cells := 0, slots := 0, locals := 120 } : Room)) (h0 : Nat) (a_s_course : Nat) (a_s_course_cells : Nat) (a_s_course_notes : Nat) (x1 : Int32) (x3 : Int32) (s0 : Int32) (s_course_boards : Int32) (s_course_cells : Nat → Int64) (s_course_notes : Nat → Int32) (r : Int32) (hm : fX1_mayMend_B22 x1 x3 s0 s_course_cells s_course_notes = some r) (hR : (∀ (pc : Nat) (lv : List (Nat × Value)), narrow .boolean (.int r) = .int r → decode cX1_mayMend pc = .ok (.ireturn, 1) → V Γ 6 0 0 pc lv [.int r] [(h0, eO 1 [.ref a_s_course]), (a_s_course, eO 3 [.ref a_s_course_cells, .ref a_s_course_notes, .int s_course_boards]), (a_s_course_cells, eJ 392 s_course_cells), (a_s_course_notes, eI 288 s_course_notes)])) : V Γ 6 0 0 22 [(0, .ref h0), (1, .int x1), (3, .int x3)] [.int s0] [(h0, eO 1 [.ref a_s_course]), (a_s_course, eO 3 [.ref a_s_course_cells, .ref a_s_course_notes, .int s_course_boards]), (a_s_course_cells, eJ 392 s_course_cells), (a_s_course_notes, eI 288 s_course_notes)] := by
  unfold fX1_mayMend_B22 at hm
  refine V_istore C (lv' := [(4, .int s0), (0, .ref h0), (1, .int x1), (3, .int x3)]) dX1_mayMend_22 (by decide) rfl ?_
  refine V_iconst C (v := (0 : Int32)) dX1_mayMend_24 (by decide) ?_
  refine V_istore C (lv' := [(5, .int (0 : Int32)), (4, .int s0), (0, .ref h0), (1, .int x1), (3, .int x3)]) dX1_mayMend_25 (by decide) rfl ?_
  obtain ⟨e_17, hE_18, hm⟩ := bnd hm
  refine V_lv [2, 3, 4, 1, 0] rfl ?_
  refine lX1_mayMend_L27 C h0 a_s_course a_s_course_cells a_s_course_notes x1 x3 s0 s_course_boards s_course_cells s_course_notes (0 : Int32) KF _ hE_18 ?_ ?_
  · intro _ hq
    subst hq
    -- exit
    dsimp only [Sum.elim_inl, Sum.elim_inr, un2, un3, un4, un5, un6, un7, un8, un9, un10, un11] at hm
    refine V_iconst C (v := (1 : Int32)) dX1_mayMend_83 (by decide) ?_
    cases hm
    exact hR _ _ rfl dX1_mayMend_84
  · intro rr_19 hq
    subst hq
    dsimp only [Sum.elim_inl, Sum.elim_inr, un2, un3, un4, un5, un6, un7, un8, un9, un10, un11] at hm
    cases hm
    exact hR
def fX1_mayMend_B21 (x1 : Int32) (x3 : Int32) (s_course_cells : Nat → Int64) (s_course_notes : Nat → Int32) : Option ((Int32)) := fX1_mayMend_B22 x1 x3 (0 : Int32) s_course_cells s_course_notes
set_option maxHeartbeats 4000000 in
set_option maxRecDepth 100000 in
theorem jX1_mayMend_B21 {Γ : KT} (C : CX Γ cX1_mayMend 6 wsX1_mayMend RX1 ({ frames := 5, cells := 0, slots := 0, locals := 120 } : Room)) (h0 : Nat) (a_s_course : Nat) (a_s_course_cells : Nat) (a_s_course_notes : Nat) (x1 : Int32) (x3 : Int32) (s_course_boards : Int32) (s_course_cells : Nat → Int64) (s_course_notes : Nat → Int32) (r : Int32) (hm : fX1_mayMend_B21 x1 x3 s_course_cells s_course_notes = some r) (hR : (∀ (pc : Nat) (lv : List (Nat × Value)), narrow .boolean (.int r) = .int r → decode cX1_mayMend pc = .ok (.ireturn, 1) → V Γ 6 0 0 pc lv [.int r] [(h0, eO 1 [.ref a_s_course]), (a_s_course, eO 3 [.ref a_s_course_cells, .ref a_s_course_notes, .int s_course_boards]), (a_s_course_cells, eJ 392 s_course_cells), (a_s_course_notes, eI 288 s_course_notes)])) : V Γ 6 0 0 21 [(0, .ref h0), (1, .int x1), (3, .int x3)] [] [(h0, eO 1 [.ref a_s_course]), (a_s_course, eO 3 [.ref a_s_course_cells, .ref a_s_course_notes, .int s_course_boards]), (a_s_course_cells, eJ 392 s_course_cells), (a_s_course_notes, eI 288 s_course_notes)] := by
  unfold fX1_mayMend_B21 at hm
  refine V_iconst C (v := (0 : Int32)) dX1_mayMend_21 (by decide) ?_
  refine V_lv [0, 1, 2] rfl ?_
  exact jX1_mayMend_B22 C h0 a_s_course a_s_course_cells a_s_course_notes x1 x3 (0 : Int32) s_course_boards s_course_cells s_course_notes _ hm hR
def fX1_mayMend (p0 : Int32) (p1 : Int32) (p2 : Int32) (s_course_cells : Nat → Int64) (s_course_notes : Nat → Int32) : Option ((Int32)) := if p1 = p0 then Option.bind (fX3_actsOnFirst p0 p2 s_course_notes) (fun r_2 => if r_2 = (0 : Int32) then fX1_mayMend_B21 p0 p2 s_course_cells s_course_notes else fX1_mayMend_B22 p0 p2 (1 : Int32) s_course_cells s_course_notes) else fX1_mayMend_B21 p0 p2 s_course_cells s_course_notes
set_option maxHeartbeats 4000000 in
set_option maxRecDepth 100000 in
theorem kX1_mayMend {l : Launch} (h0 : Nat) (a_s_course : Nat) (a_s_course_cells : Nat) (a_s_course_notes : Nat) (s_course_boards : Int32) (s_course_cells : Nat → Int64) (s_course_notes : Nat → Int32) (p0 : Int32) (p1 : Int32) (p2 : Int32) (r : Int32) (hm : fX1_mayMend p0 p1 p2 s_course_cells s_course_notes = some r) : CtI l yX1_mayMend wsX1_mayMend ({ frames := 5, cells := 0, slots := 0, locals := 120 } : Room) [.ref h0, .int p0, .int p1, .int p2] [(h0, eO 1 [.ref a_s_course]), (a_s_course, eO 3 [.ref a_s_course_cells, .ref a_s_course_notes, .int s_course_boards]), (a_s_course_cells, eJ 392 s_course_cells), (a_s_course_notes, eI 288 s_course_notes)] r [(h0, eO 1 [.ref a_s_course]), (a_s_course, eO 3 [.ref a_s_course_cells, .ref a_s_course_notes, .int s_course_boards]), (a_s_course_cells, eJ 392 s_course_cells), (a_s_course_notes, eI 288 s_course_notes)] := by
  refine CtI_of (cc := cX1_mayMend) (maxL := 6) (ty := .boolean) (own := RX1) rfl (by decide) rfl (lv0 := [(0, .ref h0), (1, .int p0), (2, .int p1), (3, .int p2)]) rfl (Nat.le_of_ble_eq_true rfl) (fun Γ hL C hR => ?_)
  subst hL
  unfold fX1_mayMend at hm
  refine V_iload_n C 2 dX1_mayMend_0 rfl rfl ?_
  refine V_iload_n C 1 dX1_mayMend_1 rfl rfl ?_
  refine V_icmp_ne C 21 dX1_mayMend_2 (by decide) (fun c_1 => ?_) (fun c_1 => ?_)
  · have hm := ite_t c_1 hm
    refine V_aload_n C 0 dX1_mayMend_5 rfl rfl ?_
    refine V_get C uX1_mayMend_X1 0 0 rfl rfl (by decide) mX1_mayMend_1 rfl dX1_mayMend_6 ?_
    refine V_iload_n C 1 dX1_mayMend_9 rfl rfl ?_
    refine V_iload_n C 3 dX1_mayMend_10 rfl rfl ?_
    obtain ⟨r_2, hc_3, hm⟩ := bnd hm
    refine V_callVI C (As := [.int p0, .int p2]) (wr := [(h0, eO 1 [.ref a_s_course])]) (ws2 := [(h0, eO 1 [.ref a_s_course]), (a_s_course, eO 3 [.ref a_s_course_cells, .ref a_s_course_notes, .int s_course_boards]), (a_s_course_cells, eJ 392 s_course_cells), (a_s_course_notes, eI 288 s_course_notes)]) (kX3_actsOnFirst a_s_course a_s_course_cells a_s_course_notes s_course_boards s_course_cells s_course_notes p0 p2 r_2 hc_3) gX1_mayMend_X3_actsOnFirst rfl ⟨rfl, rfl⟩ hdX3_actsOnFirst ⟨Nat.le_of_ble_eq_true rfl, Nat.le_of_ble_eq_true rfl⟩ ⟨Nat.zero_le _, Nat.zero_le _⟩ 0 rfl rfl [1, 2, 3] [0] [0, 1, 2, 3] rfl rfl ⟨rfl, rfl, rfl⟩ (by decide) rfl rfl (Nat.le_of_ble_eq_true rfl) dX1_mayMend_11 ?_
    refine V_if_eq C 21 dX1_mayMend_14 (by decide) (fun c_4 => ?_) (fun c_4 => ?_)
    · have hm := ite_t c_4 hm
      refine V_lv [0, 1, 3] rfl ?_
      exact jX1_mayMend_B21 C h0 a_s_course a_s_course_cells a_s_course_notes p0 p2 s_course_boards s_course_cells s_course_notes _ hm hR
    · have hm := ite_f c_4 hm
      refine V_iconst C (v := (1 : Int32)) dX1_mayMend_17 (by decide) ?_
      refine V_goto C 22 dX1_mayMend_18 (by decide) ?_
      refine V_lv [0, 1, 3] rfl ?_
      exact jX1_mayMend_B22 C h0 a_s_course a_s_course_cells a_s_course_notes p0 p2 (1 : Int32) s_course_boards s_course_cells s_course_notes _ hm hR
  · have hm := ite_f c_1 hm
    refine V_lv [0, 1, 3] rfl ?_
    exact jX1_mayMend_B21 C h0 a_s_course a_s_course_cells a_s_course_notes p0 p2 s_course_boards s_course_cells s_course_notes _ hm hR
theorem hdX1_mayMend : yX1_mayMend.cls = RX1 ∧ yX1_mayMend.cls ≠ "java/lang/invoke/MethodHandle" ∧ yX1_mayMend.cls ≠ "java/lang/invoke/VarHandle" ∧ (parseMethodDescriptor yX1_mayMend.desc).map (fun d => d.parameters.length) = some 3 := by decide +kernel
-- RodBoard$Clerk.mends(IIIII)Z
theorem uX1_mends_X1 : ∀ w ∈ wsX10, w ∈ wsX1_mends := fun _ h => List.mem_cons_of_mem _ (List.mem_append_left _ (List.mem_append_right _ h))
theorem mX1_mends_1 : Cond.fieldLink RX1 12 "RodBoard$Clerk" "course" "LRodBoard$Course;" ∈ wsX1_mends := List.mem_of_getElem? (i := 1) rfl
def fX1_mends_B102 (x2 : Int32) (x3 : Int32) (x6 : Int64) (x8 : Int32) (x9 : Int32) (s0 : Int32) (s_course_boards : Int32) (s_course_cells : Nat → Int64) (s_course_notes : Nat → Int32) : Option ((Int32) × (Nat → Int64)) := Option.bind (fX3_put x2 x3 x6 s_course_cells) (fun w_15 => if x9 = (0 : Int32) then some ((0 : Int32), w_15) else if s0 = (0 : Int32) then Option.bind (fX1_isRight x8 s_course_boards w_15 s_course_notes) (fun r_19 => if r_19 = (0 : Int32) then some ((1 : Int32), w_15) else some ((0 : Int32), w_15)) else some ((1 : Int32), w_15))
set_option maxHeartbeats 4000000 in
set_option maxRecDepth 100000 in
theorem jX1_mends_B102 {Γ : KT} (C : CX Γ cX1_mends 11 wsX1_mends RX1 ({ frames := 6, cells := 0, slots := 0, locals := 142 } : Room)) (h0 : Nat) (a_s_course : Nat) (a_s_course_cells : Nat) (a_s_course_notes : Nat) (x2 : Int32) (x3 : Int32) (x6 : Int64) (x8 : Int32) (x9 : Int32) (s0 : Int32) (s_course_boards : Int32) (s_course_cells : Nat → Int64) (s_course_notes : Nat → Int32) (r : Int32) (o_s_course_cells : Nat → Int64) (hm : fX1_mends_B102 x2 x3 x6 x8 x9 s0 s_course_boards s_course_cells s_course_notes = some (r, o_s_course_cells)) (hR : (∀ (pc : Nat) (lv : List (Nat × Value)), narrow .boolean (.int r) = .int r → decode cX1_mends pc = .ok (.ireturn, 1) → V Γ 11 0 0 pc lv [.int r] [(h0, eO 1 [.ref a_s_course]), (a_s_course, eO 3 [.ref a_s_course_cells, .ref a_s_course_notes, .int s_course_boards]), (a_s_course_cells, eJ 392 o_s_course_cells), (a_s_course_notes, eI 288 s_course_notes)])) : V Γ 11 0 0 102 [(0, .ref h0), (2, .int x2), (3, .int x3), (6, .long x6), (8, .int x8), (9, .int x9)] [.int s0] [(h0, eO 1 [.ref a_s_course]), (a_s_course, eO 3 [.ref a_s_course_cells, .ref a_s_course_notes, .int s_course_boards]), (a_s_course_cells, eJ 392 s_course_cells), (a_s_course_notes, eI 288 s_course_notes)] := by
  unfold fX1_mends_B102 at hm
  refine V_istore C (lv' := [(10, .int s0), (0, .ref h0), (2, .int x2), (3, .int x3), (6, .long x6), (8, .int x8), (9, .int x9)]) dX1_mends_102 (by decide) rfl ?_
  refine V_aload_n C 1 dX1_mends_104 rfl rfl ?_
  refine V_get C uX1_mends_X1 0 0 rfl rfl (by decide) mX1_mends_1 rfl dX1_mends_105 ?_
  refine V_iload_n C 2 dX1_mends_108 rfl rfl ?_
  refine V_iload_n C 3 dX1_mends_109 rfl rfl ?_
  refine V_lload C 4 dX1_mends_110 rfl ?_
  obtain ⟨w_15, hc_16, hm⟩ := bnd hm
  refine V_callVV C (As := [.int x2, .int x3, .long x6]) (wr := [(h0, eO 1 [.ref a_s_course])]) (ws2 := [(h0, eO 1 [.ref a_s_course]), (a_s_course, eO 3 [.ref a_s_course_cells, .ref a_s_course_notes, .int s_course_boards]), (a_s_course_cells, eJ 392 w_15), (a_s_course_notes, eI 288 s_course_notes)]) (kX3_put a_s_course a_s_course_cells a_s_course_notes s_course_boards s_course_cells s_course_notes x2 x3 x6 w_15 hc_16) gX1_mends_X3_put rfl ⟨rfl, rfl⟩ hdX3_put ⟨Nat.le_of_ble_eq_true rfl, Nat.le_of_ble_eq_true rfl⟩ ⟨Nat.zero_le _, Nat.zero_le _⟩ 0 rfl rfl [1, 2, 3] [0] [0, 1, 2, 3] rfl rfl ⟨rfl, rfl, rfl⟩ (by decide) rfl rfl (Nat.le_of_ble_eq_true rfl) dX1_mends_112 ?_
  refine V_iload C 6 dX1_mends_115 rfl ?_
  refine V_if_eq C 138 dX1_mends_117 (by decide) (fun c_17 => ?_) (fun c_17 => ?_)
  · have hm := ite_t c_17 hm
    refine V_iconst C (v := (0 : Int32)) dX1_mends_138 (by decide) ?_
    cases hm
    exact hR _ _ rfl dX1_mends_139
  · have hm := ite_f c_17 hm
    refine V_iload C 0 dX1_mends_120 rfl ?_
    refine V_if_ne C 134 dX1_mends_122 (by decide) (fun c_18 => ?_) (fun c_18 => ?_)
    · have hm := ite_t c_18 hm
      refine V_aload_n C 1 dX1_mends_125 rfl rfl ?_
      refine V_iload C 5 dX1_mends_126 rfl ?_
      obtain ⟨r_19, hc_20, hm⟩ := bnd hm
      refine V_callVI C (As := [.int x8]) (wr := []) (ws2 := [(h0, eO 1 [.ref a_s_course]), (a_s_course, eO 3 [.ref a_s_course_cells, .ref a_s_course_notes, .int s_course_boards]), (a_s_course_cells, eJ 392 w_15), (a_s_course_notes, eI 288 s_course_notes)]) (kX1_isRight h0 a_s_course a_s_course_cells a_s_course_notes s_course_boards w_15 s_course_notes x8 r_19 hc_20) gX1_mends_X1_isRight rfl ⟨rfl, rfl⟩ hdX1_isRight ⟨Nat.le_of_ble_eq_true rfl, Nat.le_of_ble_eq_true rfl⟩ ⟨Nat.zero_le _, Nat.zero_le _⟩ 0 rfl rfl [0, 1, 2, 3] [] [0, 1, 2, 3] rfl rfl ⟨rfl, rfl, rfl⟩ (by decide) rfl rfl (Nat.le_of_ble_eq_true rfl) dX1_mends_128 ?_
      refine V_if_ne C 138 dX1_mends_131 (by decide) (fun c_21 => ?_) (fun c_21 => ?_)
      · have hm := ite_t c_21 hm
        refine V_iconst C (v := (1 : Int32)) dX1_mends_134 (by decide) ?_
        refine V_goto C 139 dX1_mends_135 (by decide) ?_
        cases hm
        exact hR _ _ rfl dX1_mends_139
      · have hm := ite_f c_21 hm
        refine V_iconst C (v := (0 : Int32)) dX1_mends_138 (by decide) ?_
        cases hm
        exact hR _ _ rfl dX1_mends_139
    · have hm := ite_f c_18 hm
      refine V_iconst C (v := (1 : Int32)) dX1_mends_134 (by decide) ?_
      refine V_goto C 139 dX1_mends_135 (by decide) ?_
      cases hm
      exact hR _ _ rfl dX1_mends_139
def fX1_mends_B101 (x2 : Int32) (x3 : Int32) (x6 : Int64) (x8 : Int32) (x9 : Int32) (s_course_boards : Int32) (s_course_cells : Nat → Int64) (s_course_notes : Nat → Int32) : Option ((Int32) × (Nat → Int64)) := fX1_mends_B102 x2 x3 x6 x8 x9 (0 : Int32) s_course_boards s_course_cells s_course_notes
set_option maxHeartbeats 4000000 in
set_option maxRecDepth 100000 in
theorem jX1_mends_B101 {Γ : KT} (C : CX Γ cX1_mends 11 wsX1_mends RX1 ({ frames := 6, cells := 0, slots := 0, locals := 142 } : Room)) (h0 : Nat) (a_s_course : Nat) (a_s_course_cells : Nat) (a_s_course_notes : Nat) (x2 : Int32) (x3 : Int32) (x6 : Int64) (x8 : Int32) (x9 : Int32) (s_course_boards : Int32) (s_course_cells : Nat → Int64) (s_course_notes : Nat → Int32) (r : Int32) (o_s_course_cells : Nat → Int64) (hm : fX1_mends_B101 x2 x3 x6 x8 x9 s_course_boards s_course_cells s_course_notes = some (r, o_s_course_cells)) (hR : (∀ (pc : Nat) (lv : List (Nat × Value)), narrow .boolean (.int r) = .int r → decode cX1_mends pc = .ok (.ireturn, 1) → V Γ 11 0 0 pc lv [.int r] [(h0, eO 1 [.ref a_s_course]), (a_s_course, eO 3 [.ref a_s_course_cells, .ref a_s_course_notes, .int s_course_boards]), (a_s_course_cells, eJ 392 o_s_course_cells), (a_s_course_notes, eI 288 s_course_notes)])) : V Γ 11 0 0 101 [(0, .ref h0), (2, .int x2), (3, .int x3), (6, .long x6), (8, .int x8), (9, .int x9)] [] [(h0, eO 1 [.ref a_s_course]), (a_s_course, eO 3 [.ref a_s_course_cells, .ref a_s_course_notes, .int s_course_boards]), (a_s_course_cells, eJ 392 s_course_cells), (a_s_course_notes, eI 288 s_course_notes)] := by
  unfold fX1_mends_B101 at hm
  refine V_iconst C (v := (0 : Int32)) dX1_mends_101 (by decide) ?_
  refine V_lv [0, 1, 2, 3, 4, 5] rfl ?_
  exact jX1_mends_B102 C h0 a_s_course a_s_course_cells a_s_course_notes x2 x3 x6 x8 x9 (0 : Int32) s_course_boards s_course_cells s_course_notes _ _ hm hR
def fX1_mends_B81 (x2 : Int32) (x3 : Int32) (x6 : Int64) (x8 : Int32) (s0 : Int32) (s_course_boards : Int32) (s_course_cells : Nat → Int64) (s_course_notes : Nat → Int32) : Option ((Int32) × (Nat → Int64)) := if s0 = (0 : Int32) then fX1_mends_B101 x2 x3 x6 x8 s0 s_course_boards s_course_cells s_course_notes else Option.bind (fX1_isRight x8 s_course_boards s_course_cells s_course_notes) (fun r_22 => if r_22 = (0 : Int32) then fX1_mends_B101 x2 x3 x6 x8 s0 s_course_boards s_course_cells s_course_notes else fX1_mends_B102 x2 x3 x6 x8 s0 (1 : Int32) s_course_boards s_course_cells s_course_notes)
set_option maxHeartbeats 4000000 in
set_option maxRecDepth 100000 in
theorem jX1_mends_B81 {Γ : KT} (C : CX Γ cX1_mends 11 wsX1_mends RX1 ({ frames := 6, cells := 0, slots := 0, locals := 142 } : Room)) (h0 : Nat) (a_s_course : Nat) (a_s_course_cells : Nat) (a_s_course_notes : Nat) (x2 : Int32) (x3 : Int32) (x6 : Int64) (x8 : Int32) (s0 : Int32) (s_course_boards : Int32) (s_course_cells : Nat → Int64) (s_course_notes : Nat → Int32) (r : Int32) (o_s_course_cells : Nat → Int64) (hm : fX1_mends_B81 x2 x3 x6 x8 s0 s_course_boards s_course_cells s_course_notes = some (r, o_s_course_cells)) (hR : (∀ (pc : Nat) (lv : List (Nat × Value)), narrow .boolean (.int r) = .int r → decode cX1_mends pc = .ok (.ireturn, 1) → V Γ 11 0 0 pc lv [.int r] [(h0, eO 1 [.ref a_s_course]), (a_s_course, eO 3 [.ref a_s_course_cells, .ref a_s_course_notes, .int s_course_boards]), (a_s_course_cells, eJ 392 o_s_course_cells), (a_s_course_notes, eI 288 s_course_notes)])) : V Γ 11 0 0 81 [(0, .ref h0), (2, .int x2), (3, .int x3), (6, .long x6), (8, .int x8)] [.int s0] [(h0, eO 1 [.ref a_s_course]), (a_s_course, eO 3 [.ref a_s_course_cells, .ref a_s_course_notes, .int s_course_boards]), (a_s_course_cells, eJ 392 s_course_cells), (a_s_course_notes, eI 288 s_course_notes)] := by
  unfold fX1_mends_B81 at hm
  refine V_istore C (lv' := [(9, .int s0), (0, .ref h0), (2, .int x2), (3, .int x3), (6, .long x6), (8, .int x8)]) dX1_mends_81 (by decide) rfl ?_
  refine V_iload C 0 dX1_mends_83 rfl ?_
  refine V_if_eq C 101 dX1_mends_85 (by decide) (fun c_14 => ?_) (fun c_14 => ?_)
  · have hm := ite_t c_14 hm
    refine V_lv [1, 2, 3, 4, 5, 0] rfl ?_
    exact jX1_mends_B101 C h0 a_s_course a_s_course_cells a_s_course_notes x2 x3 x6 x8 s0 s_course_boards s_course_cells s_course_notes _ _ hm hR
  · have hm := ite_f c_14 hm
    refine V_aload_n C 1 dX1_mends_88 rfl rfl ?_
    refine V_iload C 5 dX1_mends_89 rfl ?_
    obtain ⟨r_22, hc_23, hm⟩ := bnd hm
    refine V_callVI C (As := [.int x8]) (wr := []) (ws2 := [(h0, eO 1 [.ref a_s_course]), (a_s_course, eO 3 [.ref a_s_course_cells, .ref a_s_course_notes, .int s_course_boards]), (a_s_course_cells, eJ 392 s_course_cells), (a_s_course_notes, eI 288 s_course_notes)]) (kX1_isRight h0 a_s_course a_s_course_cells a_s_course_notes s_course_boards s_course_cells s_course_notes x8 r_22 hc_23) gX1_mends_X1_isRight rfl ⟨rfl, rfl⟩ hdX1_isRight ⟨Nat.le_of_ble_eq_true rfl, Nat.le_of_ble_eq_true rfl⟩ ⟨Nat.zero_le _, Nat.zero_le _⟩ 0 rfl rfl [0, 1, 2, 3] [] [0, 1, 2, 3] rfl rfl ⟨rfl, rfl, rfl⟩ (by decide) rfl rfl (Nat.le_of_ble_eq_true rfl) dX1_mends_91 ?_
    refine V_if_eq C 101 dX1_mends_94 (by decide) (fun c_24 => ?_) (fun c_24 => ?_)
    · have hm := ite_t c_24 hm
      refine V_lv [1, 2, 3, 4, 5, 0] rfl ?_
      exact jX1_mends_B101 C h0 a_s_course a_s_course_cells a_s_course_notes x2 x3 x6 x8 s0 s_course_boards s_course_cells s_course_notes _ _ hm hR
    · have hm := ite_f c_24 hm
      refine V_iconst C (v := (1 : Int32)) dX1_mends_97 (by decide) ?_
      refine V_goto C 102 dX1_mends_98 (by decide) ?_
      refine V_lv [1, 2, 3, 4, 5, 0] rfl ?_
      exact jX1_mends_B102 C h0 a_s_course a_s_course_cells a_s_course_notes x2 x3 x6 x8 s0 (1 : Int32) s_course_boards s_course_cells s_course_notes _ _ hm hR
def fX1_mends_B80 (x2 : Int32) (x3 : Int32) (x6 : Int64) (x8 : Int32) (s_course_boards : Int32) (s_course_cells : Nat → Int64) (s_course_notes : Nat → Int32) : Option ((Int32) × (Nat → Int64)) := fX1_mends_B81 x2 x3 x6 x8 (0 : Int32) s_course_boards s_course_cells s_course_notes
set_option maxHeartbeats 4000000 in
set_option maxRecDepth 100000 in
theorem jX1_mends_B80 {Γ : KT} (C : CX Γ cX1_mends 11 wsX1_mends RX1 ({ frames := 6, cells := 0, slots := 0, locals := 142 } : Room)) (h0 : Nat) (a_s_course : Nat) (a_s_course_cells : Nat) (a_s_course_notes : Nat) (x2 : Int32) (x3 : Int32) (x6 : Int64) (x8 : Int32) (s_course_boards : Int32) (s_course_cells : Nat → Int64) (s_course_notes : Nat → Int32) (r : Int32) (o_s_course_cells : Nat → Int64) (hm : fX1_mends_B80 x2 x3 x6 x8 s_course_boards s_course_cells s_course_notes = some (r, o_s_course_cells)) (hR : (∀ (pc : Nat) (lv : List (Nat × Value)), narrow .boolean (.int r) = .int r → decode cX1_mends pc = .ok (.ireturn, 1) → V Γ 11 0 0 pc lv [.int r] [(h0, eO 1 [.ref a_s_course]), (a_s_course, eO 3 [.ref a_s_course_cells, .ref a_s_course_notes, .int s_course_boards]), (a_s_course_cells, eJ 392 o_s_course_cells), (a_s_course_notes, eI 288 s_course_notes)])) : V Γ 11 0 0 80 [(0, .ref h0), (2, .int x2), (3, .int x3), (6, .long x6), (8, .int x8)] [] [(h0, eO 1 [.ref a_s_course]), (a_s_course, eO 3 [.ref a_s_course_cells, .ref a_s_course_notes, .int s_course_boards]), (a_s_course_cells, eJ 392 s_course_cells), (a_s_course_notes, eI 288 s_course_notes)] := by
  unfold fX1_mends_B80 at hm
  refine V_iconst C (v := (0 : Int32)) dX1_mends_80 (by decide) ?_
  refine V_lv [0, 1, 2, 3, 4] rfl ?_
  exact jX1_mends_B81 C h0 a_s_course a_s_course_cells a_s_course_notes x2 x3 x6 x8 (0 : Int32) s_course_boards s_course_cells s_course_notes _ _ hm hR
def fX1_mends_B39 (x1 : Int32) (x2 : Int32) (x3 : Int32) (x4 : Int32) (x5 : Int32) (x6 : Int64) (s0 : Int32) (s_course_boards : Int32) (s_course_cells : Nat → Int64) (s_course_notes : Nat → Int32) : Option ((Int32) × (Nat → Int64)) := Option.bind (fX5_withDigit x6 x4 x5) (fun r_7 => Option.bind (fX3_put x2 x3 r_7 s_course_cells) (fun w_9 => Option.bind (fX1_fits x1 x3 w_9 s_course_notes) (fun r_11 => if r_11 = (0 : Int32) then fX1_mends_B80 x2 x3 x6 s0 s_course_boards w_9 s_course_notes else Option.bind (fX1_isRight x1 s_course_boards w_9 s_course_notes) (fun r_25 => if r_25 = (0 : Int32) then fX1_mends_B80 x2 x3 x6 s0 s_course_boards w_9 s_course_notes else fX1_mends_B81 x2 x3 x6 s0 (1 : Int32) s_course_boards w_9 s_course_notes))))
set_option maxHeartbeats 4000000 in
set_option maxRecDepth 100000 in
theorem jX1_mends_B39 {Γ : KT} (C : CX Γ cX1_mends 11 wsX1_mends RX1 ({ frames := 6, cells := 0, slots := 0, locals := 142 } : Room)) (h0 : Nat) (a_s_course : Nat) (a_s_course_cells : Nat) (a_s_course_notes : Nat) (x1 : Int32) (x2 : Int32) (x3 : Int32) (x4 : Int32) (x5 : Int32) (x6 : Int64) (s0 : Int32) (s_course_boards : Int32) (s_course_cells : Nat → Int64) (s_course_notes : Nat → Int32) (r : Int32) (o_s_course_cells : Nat → Int64) (hm : fX1_mends_B39 x1 x2 x3 x4 x5 x6 s0 s_course_boards s_course_cells s_course_notes = some (r, o_s_course_cells)) (hR : (∀ (pc : Nat) (lv : List (Nat × Value)), narrow .boolean (.int r) = .int r → decode cX1_mends pc = .ok (.ireturn, 1) → V Γ 11 0 0 pc lv [.int r] [(h0, eO 1 [.ref a_s_course]), (a_s_course, eO 3 [.ref a_s_course_cells, .ref a_s_course_notes, .int s_course_boards]), (a_s_course_cells, eJ 392 o_s_course_cells), (a_s_course_notes, eI 288 s_course_notes)])) : V Γ 11 0 0 39 [(0, .ref h0), (1, .int x1), (2, .int x2), (3, .int x3), (4, .int x4), (5, .int x5), (6, .long x6)] [.int s0] [(h0, eO 1 [.ref a_s_course]), (a_s_course, eO 3 [.ref a_s_course_cells, .ref a_s_course_notes, .int s_course_boards]), (a_s_course_cells, eJ 392 s_course_cells), (a_s_course_notes, eI 288 s_course_notes)] := by
  unfold fX1_mends_B39 at hm
  refine V_istore C (lv' := [(8, .int s0), (0, .ref h0), (1, .int x1), (2, .int x2), (3, .int x3), (4, .int x4), (5, .int x5), (6, .long x6)]) dX1_mends_39 (by decide) rfl ?_
  refine V_aload_n C 1 dX1_mends_41 rfl rfl ?_
  refine V_get C uX1_mends_X1 0 0 rfl rfl (by decide) mX1_mends_1 rfl dX1_mends_42 ?_
  refine V_iload_n C 3 dX1_mends_45 rfl rfl ?_
  refine V_iload_n C 4 dX1_mends_46 rfl rfl ?_
  refine V_lload C 7 dX1_mends_47 rfl ?_
  refine V_iload C 5 dX1_mends_49 rfl ?_
  refine V_iload C 6 dX1_mends_51 rfl ?_
  obtain ⟨r_7, hc_8, hm⟩ := bnd hm
  refine V_callSL C (As := [.long x6, .int x4, .int x5]) (wr := [(h0, eO 1 [.ref a_s_course]), (a_s_course, eO 3 [.ref a_s_course_cells, .ref a_s_course_notes, .int s_course_boards]), (a_s_course_cells, eJ 392 s_course_cells), (a_s_course_notes, eI 288 s_course_notes)]) (ws2 := [(h0, eO 1 [.ref a_s_course]), (a_s_course, eO 3 [.ref a_s_course_cells, .ref a_s_course_notes, .int s_course_boards]), (a_s_course_cells, eJ 392 s_course_cells), (a_s_course_notes, eI 288 s_course_notes)]) (kX5_withDigit x6 x4 x5 r_7 hc_8) gX1_mends_X5_withDigit rfl ⟨rfl, rfl⟩ hdX5_withDigit ⟨Nat.le_of_ble_eq_true rfl, Nat.le_of_ble_eq_true rfl⟩ ⟨Nat.zero_le _, Nat.zero_le _⟩ [] [0, 1, 2, 3] [0, 1, 2, 3] rfl rfl ⟨rfl, rfl, rfl⟩ (by decide) rfl rfl (Nat.le_of_ble_eq_true rfl) dX1_mends_53 ?_
  obtain ⟨w_9, hc_10, hm⟩ := bnd hm
  refine V_callVV C (As := [.int x2, .int x3, .long r_7]) (wr := [(h0, eO 1 [.ref a_s_course])]) (ws2 := [(h0, eO 1 [.ref a_s_course]), (a_s_course, eO 3 [.ref a_s_course_cells, .ref a_s_course_notes, .int s_course_boards]), (a_s_course_cells, eJ 392 w_9), (a_s_course_notes, eI 288 s_course_notes)]) (kX3_put a_s_course a_s_course_cells a_s_course_notes s_course_boards s_course_cells s_course_notes x2 x3 r_7 w_9 hc_10) gX1_mends_X3_put rfl ⟨rfl, rfl⟩ hdX3_put ⟨Nat.le_of_ble_eq_true rfl, Nat.le_of_ble_eq_true rfl⟩ ⟨Nat.zero_le _, Nat.zero_le _⟩ 0 rfl rfl [1, 2, 3] [0] [0, 1, 2, 3] rfl rfl ⟨rfl, rfl, rfl⟩ (by decide) rfl rfl (Nat.le_of_ble_eq_true rfl) dX1_mends_56 ?_
  refine V_aload_n C 1 dX1_mends_59 rfl rfl ?_
  refine V_iload_n C 2 dX1_mends_60 rfl rfl ?_
  refine V_iload_n C 4 dX1_mends_61 rfl rfl ?_
  obtain ⟨r_11, hc_12, hm⟩ := bnd hm
  refine V_callVI C (As := [.int x1, .int x3]) (wr := []) (ws2 := [(h0, eO 1 [.ref a_s_course]), (a_s_course, eO 3 [.ref a_s_course_cells, .ref a_s_course_notes, .int s_course_boards]), (a_s_course_cells, eJ 392 w_9), (a_s_course_notes, eI 288 s_course_notes)]) (kX1_fits h0 a_s_course a_s_course_cells a_s_course_notes s_course_boards w_9 s_course_notes x1 x3 r_11 hc_12) gX1_mends_X1_fits rfl ⟨rfl, rfl⟩ hdX1_fits ⟨Nat.le_of_ble_eq_true rfl, Nat.le_of_ble_eq_true rfl⟩ ⟨Nat.zero_le _, Nat.zero_le _⟩ 0 rfl rfl [0, 1, 2, 3] [] [0, 1, 2, 3] rfl rfl ⟨rfl, rfl, rfl⟩ (by decide) rfl rfl (Nat.le_of_ble_eq_true rfl) dX1_mends_62 ?_
  refine V_if_eq C 80 dX1_mends_65 (by decide) (fun c_13 => ?_) (fun c_13 => ?_)
  · have hm := ite_t c_13 hm
    refine V_lv [1, 3, 4, 7, 0] rfl ?_
    exact jX1_mends_B80 C h0 a_s_course a_s_course_cells a_s_course_notes x2 x3 x6 s0 s_course_boards w_9 s_course_notes _ _ hm hR
  · have hm := ite_f c_13 hm
    refine V_aload_n C 1 dX1_mends_68 rfl rfl ?_
    refine V_iload_n C 2 dX1_mends_69 rfl rfl ?_
    obtain ⟨r_25, hc_26, hm⟩ := bnd hm
    refine V_callVI C (As := [.int x1]) (wr := []) (ws2 := [(h0, eO 1 [.ref a_s_course]), (a_s_course, eO 3 [.ref a_s_course_cells, .ref a_s_course_notes, .int s_course_boards]), (a_s_course_cells, eJ 392 w_9), (a_s_course_notes, eI 288 s_course_notes)]) (kX1_isRight h0 a_s_course a_s_course_cells a_s_course_notes s_course_boards w_9 s_course_notes x1 r_25 hc_26) gX1_mends_X1_isRight rfl ⟨rfl, rfl⟩ hdX1_isRight ⟨Nat.le_of_ble_eq_true rfl, Nat.le_of_ble_eq_true rfl⟩ ⟨Nat.zero_le _, Nat.zero_le _⟩ 0 rfl rfl [0, 1, 2, 3] [] [0, 1, 2, 3] rfl rfl ⟨rfl, rfl, rfl⟩ (by decide) rfl rfl (Nat.le_of_ble_eq_true rfl) dX1_mends_70 ?_
    refine V_if_eq C 80 dX1_mends_73 (by decide) (fun c_27 => ?_) (fun c_27 => ?_)
    · have hm := ite_t c_27 hm
      refine V_lv [1, 3, 4, 7, 0] rfl ?_
      exact jX1_mends_B80 C h0 a_s_course a_s_course_cells a_s_course_notes x2 x3 x6 s0 s_course_boards w_9 s_course_notes _ _ hm hR
    · have hm := ite_f c_27 hm
      refine V_iconst C (v := (1 : Int32)) dX1_mends_76 (by decide) ?_
      refine V_goto C 81 dX1_mends_77 (by decide) ?_
      refine V_lv [1, 3, 4, 7, 0] rfl ?_
      exact jX1_mends_B81 C h0 a_s_course a_s_course_cells a_s_course_notes x2 x3 x6 s0 (1 : Int32) s_course_boards w_9 s_course_notes _ _ hm hR
def fX1_mends (p0 : Int32) (p1 : Int32) (p2 : Int32) (p3 : Int32) (p4 : Int32) (s_course_boards : Int32) (s_course_cells : Nat → Int64) (s_course_notes : Nat → Int32) : Option ((Int32) × (Nat → Int64)) := Option.bind (fX3_cell p1 p2 s_course_cells) (fun r_1 => Option.bind (fX5_digit r_1 p3) (fun r_3 => if p4 = r_3 then some ((0 : Int32), s_course_cells) else if p1 = p0 then fX1_mends_B39 p0 p1 p2 p3 p4 r_1 (p0 - (1 : Int32)) s_course_boards s_course_cells s_course_notes else fX1_mends_B39 p0 p1 p2 p3 p4 r_1 (p0 + (1 : Int32)) s_course_boards s_course_cells s_course_notes))
set_option maxHeartbeats 4000000 in
set_option maxRecDepth 100000 in
theorem kX1_mends {l : Launch} (h0 : Nat) (a_s_course : Nat) (a_s_course_cells : Nat) (a_s_course_notes : Nat) (s_course_boards : Int32) (s_course_cells : Nat → Int64) (s_course_notes : Nat → Int32) (p0 : Int32) (p1 : Int32) (p2 : Int32) (p3 : Int32) (p4 : Int32) (r : Int32) (o_s_course_cells : Nat → Int64) (hm : fX1_mends p0 p1 p2 p3 p4 s_course_boards s_course_cells s_course_notes = some (r, o_s_course_cells)) : CtI l yX1_mends wsX1_mends ({ frames := 6, cells := 0, slots := 0, locals := 142 } : Room) [.ref h0, .int p0, .int p1, .int p2, .int p3, .int p4] [(h0, eO 1 [.ref a_s_course]), (a_s_course, eO 3 [.ref a_s_course_cells, .ref a_s_course_notes, .int s_course_boards]), (a_s_course_cells, eJ 392 s_course_cells), (a_s_course_notes, eI 288 s_course_notes)] r [(h0, eO 1 [.ref a_s_course]), (a_s_course, eO 3 [.ref a_s_course_cells, .ref a_s_course_notes, .int s_course_boards]), (a_s_course_cells, eJ 392 o_s_course_cells), (a_s_course_notes, eI 288 s_course_notes)] := by
  refine CtI_of (cc := cX1_mends) (maxL := 11) (ty := .boolean) (own := RX1) rfl (by decide) rfl (lv0 := [(0, .ref h0), (1, .int p0), (2, .int p1), (3, .int p2), (4, .int p3), (5, .int p4)]) rfl (Nat.le_of_ble_eq_true rfl) (fun Γ hL C hR => ?_)
  subst hL
  unfold fX1_mends at hm
  refine V_aload_n C 0 dX1_mends_0 rfl rfl ?_
  refine V_get C uX1_mends_X1 0 0 rfl rfl (by decide) mX1_mends_1 rfl dX1_mends_1 ?_
  refine V_iload_n C 2 dX1_mends_4 rfl rfl ?_
  refine V_iload_n C 3 dX1_mends_5 rfl rfl ?_
  obtain ⟨r_1, hc_2, hm⟩ := bnd hm
  refine V_callVL C (As := [.int p1, .int p2]) (wr := [(h0, eO 1 [.ref a_s_course])]) (ws2 := [(h0, eO 1 [.ref a_s_course]), (a_s_course, eO 3 [.ref a_s_course_cells, .ref a_s_course_notes, .int s_course_boards]), (a_s_course_cells, eJ 392 s_course_cells), (a_s_course_notes, eI 288 s_course_notes)]) (kX3_cell a_s_course a_s_course_cells a_s_course_notes s_course_boards s_course_cells s_course_notes p1 p2 r_1 hc_2) gX1_mends_X3_cell rfl ⟨rfl, rfl⟩ hdX3_cell ⟨Nat.le_of_ble_eq_true rfl, Nat.le_of_ble_eq_true rfl⟩ ⟨Nat.zero_le _, Nat.zero_le _⟩ 0 rfl rfl [1, 2, 3] [0] [0, 1, 2, 3] rfl rfl ⟨rfl, rfl, rfl⟩ (by decide) rfl rfl (Nat.le_of_ble_eq_true rfl) dX1_mends_6 ?_
  refine V_lstore C (lv' := [(6, .long r_1), (0, .ref h0), (1, .int p0), (2, .int p1), (3, .int p2), (4, .int p3), (5, .int p4)]) dX1_mends_9 (by decide) rfl ?_
  refine V_iload C 6 dX1_mends_11 rfl ?_
  refine V_lload C 0 dX1_mends_13 rfl ?_
  refine V_iload C 5 dX1_mends_15 rfl ?_
  obtain ⟨r_3, hc_4, hm⟩ := bnd hm
  refine V_callSI C (As := [.long r_1, .int p3]) (wr := [(h0, eO 1 [.ref a_s_course]), (a_s_course, eO 3 [.ref a_s_course_cells, .ref a_s_course_notes, .int s_course_boards]), (a_s_course_cells, eJ 392 s_course_cells), (a_s_course_notes, eI 288 s_course_notes)]) (ws2 := [(h0, eO 1 [.ref a_s_course]), (a_s_course, eO 3 [.ref a_s_course_cells, .ref a_s_course_notes, .int s_course_boards]), (a_s_course_cells, eJ 392 s_course_cells), (a_s_course_notes, eI 288 s_course_notes)]) (kX5_digit r_1 p3 r_3 hc_4) gX1_mends_X5_digit rfl ⟨rfl, rfl⟩ hdX5_digit ⟨Nat.le_of_ble_eq_true rfl, Nat.le_of_ble_eq_true rfl⟩ ⟨Nat.zero_le _, Nat.zero_le _⟩ [] [0, 1, 2, 3] [0, 1, 2, 3] rfl rfl ⟨rfl, rfl, rfl⟩ (by decide) rfl rfl (Nat.le_of_ble_eq_true rfl) dX1_mends_17 ?_
  refine V_icmp_ne C 25 dX1_mends_20 (by decide) (fun c_5 => ?_) (fun c_5 => ?_)
  · have hm := ite_t c_5 hm
    refine V_iconst C (v := (0 : Int32)) dX1_mends_23 (by decide) ?_
    cases hm
    exact hR _ _ rfl dX1_mends_24
  · have hm := ite_f c_5 hm
    refine V_iload_n C 3 dX1_mends_25 rfl rfl ?_
    refine V_iload_n C 2 dX1_mends_26 rfl rfl ?_
    refine V_icmp_ne C 36 dX1_mends_27 (by decide) (fun c_6 => ?_) (fun c_6 => ?_)
    · have hm := ite_t c_6 hm
      refine V_iload_n C 2 dX1_mends_30 rfl rfl ?_
      refine V_iconst C (v := (1 : Int32)) dX1_mends_31 (by decide) ?_
      refine V_isub C dX1_mends_32 ?_
      refine V_goto C 39 dX1_mends_33 (by decide) ?_
      refine V_lv [1, 2, 3, 4, 5, 6, 0] rfl ?_
      exact jX1_mends_B39 C h0 a_s_course a_s_course_cells a_s_course_notes p0 p1 p2 p3 p4 r_1 (p0 - (1 : Int32)) s_course_boards s_course_cells s_course_notes _ _ hm hR
    · have hm := ite_f c_6 hm
      refine V_iload_n C 2 dX1_mends_36 rfl rfl ?_
      refine V_iconst C (v := (1 : Int32)) dX1_mends_37 (by decide) ?_
      refine V_iadd C dX1_mends_38 ?_
      refine V_lv [1, 2, 3, 4, 5, 6, 0] rfl ?_
      exact jX1_mends_B39 C h0 a_s_course a_s_course_cells a_s_course_notes p0 p1 p2 p3 p4 r_1 (p0 + (1 : Int32)) s_course_boards s_course_cells s_course_notes _ _ hm hR
theorem hdX1_mends : yX1_mends.cls = RX1 ∧ yX1_mends.cls ≠ "java/lang/invoke/MethodHandle" ∧ yX1_mends.cls ≠ "java/lang/invoke/VarHandle" ∧ (parseMethodDescriptor yX1_mends.desc).map (fun d => d.parameters.length) = some 5 := by decide +kernel
-- RodBoard$Clerk.findMend(I)I
theorem mX1_findMend_1 : Cond.constant RX1 71 (100000) ∈ wsX1_findMend := List.mem_of_getElem? (i := 1) rfl
def fX1_findMend_L74b (x1 : Int32) (x3 : Int32) (x5 : Int32) (x6 : Int32) (x7 : Int32) (s_course_boards : Int32) (s_course_notes : Nat → Int32) (x4 : Int32) (x8 : Int32) (s_course_cells : Nat → Int64) : Option (((Int32) × (Int32) × (Nat → Int64)) ⊕ (((Int32) × (Nat → Int64)) ⊕ ((Int32) × (Nat → Int64)))) := if x8 < (120 : Int32) then bn2 (fX1_mends x3 x6 x7 (x8 / (10 : Int32)) (x8 % (10 : Int32)) s_course_boards s_course_cells s_course_notes) (fun r_10 w_11 => if r_10 = (0 : Int32) then some (Sum.inl (x4, x8 + (1 : Int32), w_11)) else if x4 = x1 then some (Sum.inr (Sum.inr ((((100000 : Int32) * x6) + ((1000 : Int32) * x7)) + x8, w_11))) else some (Sum.inl (x4 + (1 : Int32), x8 + (1 : Int32), w_11))) else some (Sum.inr (Sum.inl (x4, s_course_cells)))
def fX1_findMend_L74 (x1 : Int32) (x3 : Int32) (x5 : Int32) (x6 : Int32) (x7 : Int32) (s_course_boards : Int32) (s_course_notes : Nat → Int32) : ((Int32) × (Int32) × (Nat → Int64)) → Option (((Int32) × (Int32) × (Nat → Int64)) ⊕ (((Int32) × (Nat → Int64)) ⊕ ((Int32) × (Nat → Int64)))) := fun e => fX1_findMend_L74b x1 x3 x5 x6 x7 s_course_boards s_course_notes e.1 e.2.1 e.2.2
set_option maxHeartbeats 4000000 in
set_option maxRecDepth 100000 in
theorem bX1_findMend_L74 {Γ : KT} (C : CX Γ cX1_findMend 9 wsX1_findMend RX1 ({ frames := 7, cells := 0, slots := 0, locals := 172 } : Room)) (h0 : Nat) (a_s_course : Nat) (a_s_course_cells : Nat) (a_s_course_notes : Nat) (x1 : Int32) (x3 : Int32) (x5 : Int32) (x6 : Int32) (x7 : Int32) (s_course_boards : Int32) (s_course_notes : Nat → Int32) (x4 : Int32) (x8 : Int32) (s_course_cells : Nat → Int64) (x : ((Int32) × (Int32) × (Nat → Int64)) ⊕ (((Int32) × (Nat → Int64)) ⊕ ((Int32) × (Nat → Int64)))) (hm : fX1_findMend_L74b x1 x3 x5 x6 x7 s_course_boards s_course_notes x4 x8 s_course_cells = some x) (hb : (∀ (x4' : Int32) (x8' : Int32) (s_course_cells' : Nat → Int64), x = Sum.inl (x4', x8', s_course_cells') → V Γ 9 0 0 74 [(0, .ref h0), (1, .int x1), (3, .int x3), (4, .int x4'), (5, .int x5), (6, .int x6), (7, .int x7), (8, .int x8')] [] [(h0, eO 1 [.ref a_s_course]), (a_s_course, eO 3 [.ref a_s_course_cells, .ref a_s_course_notes, .int s_course_boards]), (a_s_course_cells, eJ 392 s_course_cells'), (a_s_course_notes, eI 288 s_course_notes)])) (he0 : (∀ (x4' : Int32) (s_course_cells' : Nat → Int64), x = Sum.inr (Sum.inl (x4', s_course_cells')) → V Γ 9 0 0 137 [(0, .ref h0), (1, .int x1), (3, .int x3), (4, .int x4'), (5, .int x5)] [] [(h0, eO 1 [.ref a_s_course]), (a_s_course, eO 3 [.ref a_s_course_cells, .ref a_s_course_notes, .int s_course_boards]), (a_s_course_cells, eJ 392 s_course_cells'), (a_s_course_notes, eI 288 s_course_notes)])) (her : (∀ (r' : Int32) (s_course_cells' : Nat → Int64), x = Sum.inr (Sum.inr (r', s_course_cells')) → (∀ (pc : Nat) (lv : List (Nat × Value)), narrow .int (.int r') = .int r' → decode cX1_findMend pc = .ok (.ireturn, 1) → V Γ 9 0 0 pc lv [.int r'] [(h0, eO 1 [.ref a_s_course]), (a_s_course, eO 3 [.ref a_s_course_cells, .ref a_s_course_notes, .int s_course_boards]), (a_s_course_cells, eJ 392 s_course_cells'), (a_s_course_notes, eI 288 s_course_notes)]))) : V Γ 9 0 0 74 [(0, .ref h0), (1, .int x1), (3, .int x3), (4, .int x4), (5, .int x5), (6, .int x6), (7, .int x7), (8, .int x8)] [] [(h0, eO 1 [.ref a_s_course]), (a_s_course, eO 3 [.ref a_s_course_cells, .ref a_s_course_notes, .int s_course_boards]), (a_s_course_cells, eJ 392 s_course_cells), (a_s_course_notes, eI 288 s_course_notes)] := by
  unfold fX1_findMend_L74b at hm
  refine V_iload C 7 dX1_findMend_74 rfl ?_
  refine V_bipush C (v := (120 : Int32)) dX1_findMend_76 (by decide) ?_
  refine V_icmp_ge C 137 dX1_findMend_78 (by decide) (fun c_9 => ?_) (fun c_9 => ?_)
  · have hm := ite_t c_9 hm
    refine V_aload_n C 0 dX1_findMend_81 rfl rfl ?_
    refine V_iload_n C 2 dX1_findMend_82 rfl rfl ?_
    refine V_iload C 5 dX1_findMend_83 rfl ?_
    refine V_iload C 6 dX1_findMend_85 rfl ?_
    refine V_iload C 7 dX1_findMend_87 rfl ?_
    refine V_bipush C (v := (10 : Int32)) dX1_findMend_89 (by decide) ?_
    refine V_idivK C (by decide) dX1_findMend_91 ?_
    refine V_iload C 7 dX1_findMend_92 rfl ?_
    refine V_bipush C (v := (10 : Int32)) dX1_findMend_94 (by decide) ?_
    refine V_iremK C (by decide) dX1_findMend_96 ?_
    obtain ⟨r_10, w_11, hc_12, hm⟩ := bd2 hm
    refine V_callVI C (As := [.int x3, .int x6, .int x7, .int (x8 / (10 : Int32)), .int (x8 % (10 : Int32))]) (wr := []) (ws2 := [(h0, eO 1 [.ref a_s_course]), (a_s_course, eO 3 [.ref a_s_course_cells, .ref a_s_course_notes, .int s_course_boards]), (a_s_course_cells, eJ 392 w_11), (a_s_course_notes, eI 288 s_course_notes)]) (kX1_mends h0 a_s_course a_s_course_cells a_s_course_notes s_course_boards s_course_cells s_course_notes x3 x6 x7 (x8 / (10 : Int32)) (x8 % (10 : Int32)) r_10 w_11 hc_12) gX1_findMend_X1_mends rfl ⟨rfl, rfl⟩ hdX1_mends ⟨Nat.le_of_ble_eq_true rfl, Nat.le_of_ble_eq_true rfl⟩ ⟨Nat.zero_le _, Nat.zero_le _⟩ 0 rfl rfl [0, 1, 2, 3] [] [0, 1, 2, 3] rfl rfl ⟨rfl, rfl, rfl⟩ (by decide) rfl rfl (Nat.le_of_ble_eq_true rfl) dX1_findMend_97 ?_
    refine V_if_ne C 106 dX1_findMend_100 (by decide) (fun c_13 => ?_) (fun c_13 => ?_)
    · have hm := ite_t c_13 hm
      refine V_goto C 131 dX1_findMend_103 (by decide) ?_
      refine V_iinc C 7 (v := x8 + (1 : Int32)) (lv' := [(8, .int (x8 + (1 : Int32))), (0, .ref h0), (1, .int x1), (3, .int x3), (4, .int x4), (5, .int x5), (6, .int x6), (7, .int x7)]) dX1_findMend_131 rfl rfl (by decide) rfl ?_
      refine V_goto C 74 dX1_findMend_134 (by decide) ?_
      refine V_lv [1, 2, 3, 4, 5, 6, 7, 0] rfl ?_
      exact hb x4 (x8 + (1 : Int32)) w_11 (Option.some.inj hm).symm
    · have hm := ite_f c_13 hm
      refine V_iload C 3 dX1_findMend_106 rfl ?_
      refine V_iload_n C 1 dX1_findMend_108 rfl rfl ?_
      refine V_icmp_ne C 128 dX1_findMend_109 (by decide) (fun c_14 => ?_) (fun c_14 => ?_)
      · have hm := ite_t c_14 hm
        refine V_ldc C (v := (100000 : Int32)) mX1_findMend_1 dX1_findMend_112 ?_
        refine V_iload C 5 dX1_findMend_114 rfl ?_
        refine V_imul C dX1_findMend_116 ?_
        refine V_sipush C (v := (1000 : Int32)) dX1_findMend_117 (by decide) ?_
        refine V_iload C 6 dX1_findMend_120 rfl ?_
        refine V_imul C dX1_findMend_122 ?_
        refine V_iadd C dX1_findMend_123 ?_
        refine V_iload C 7 dX1_findMend_124 rfl ?_
        refine V_iadd C dX1_findMend_126 ?_
        exact her ((((100000 : Int32) * x6) + ((1000 : Int32) * x7)) + x8) w_11 (Option.some.inj hm).symm _ _ rfl dX1_findMend_127
      · have hm := ite_f c_14 hm
        refine V_iinc C 3 (v := x4 + (1 : Int32)) (lv' := [(4, .int (x4 + (1 : Int32))), (0, .ref h0), (1, .int x1), (3, .int x3), (5, .int x5), (6, .int x6), (7, .int x7), (8, .int x8)]) dX1_findMend_128 rfl rfl (by decide) rfl ?_
        refine V_iinc C 7 (v := x8 + (1 : Int32)) (lv' := [(8, .int (x8 + (1 : Int32))), (4, .int (x4 + (1 : Int32))), (0, .ref h0), (1, .int x1), (3, .int x3), (5, .int x5), (6, .int x6), (7, .int x7)]) dX1_findMend_131 rfl rfl (by decide) rfl ?_
        refine V_goto C 74 dX1_findMend_134 (by decide) ?_
        refine V_lv [2, 3, 4, 1, 5, 6, 7, 0] rfl ?_
        exact hb (x4 + (1 : Int32)) (x8 + (1 : Int32)) w_11 (Option.some.inj hm).symm
  · have hm := ite_f c_9 hm
    refine V_lv [0, 1, 2, 3, 4] rfl ?_
    exact he0 x4 s_course_cells (Option.some.inj hm).symm
theorem lX1_findMend_L74 {Γ : KT} (C : CX Γ cX1_findMend 9 wsX1_findMend RX1 ({ frames := 7, cells := 0, slots := 0, locals := 172 } : Room)) (h0 : Nat) (a_s_course : Nat) (a_s_course_cells : Nat) (a_s_course_notes : Nat) (x1 : Int32) (x3 : Int32) (x5 : Int32) (x6 : Int32) (x7 : Int32) (s_course_boards : Int32) (s_course_notes : Nat → Int32) (x4 : Int32) (x8 : Int32) (s_course_cells : Nat → Int64) (N : Nat) (e : ((Int32) × (Nat → Int64)) ⊕ ((Int32) × (Nat → Int64))) (hN : itr (fX1_findMend_L74 x1 x3 x5 x6 x7 s_course_boards s_course_notes) N (x4, x8, s_course_cells) = some e) (he0 : (∀ (x4' : Int32) (s_course_cells' : Nat → Int64), e = Sum.inl (x4', s_course_cells') → V Γ 9 0 0 137 [(0, .ref h0), (1, .int x1), (3, .int x3), (4, .int x4'), (5, .int x5)] [] [(h0, eO 1 [.ref a_s_course]), (a_s_course, eO 3 [.ref a_s_course_cells, .ref a_s_course_notes, .int s_course_boards]), (a_s_course_cells, eJ 392 s_course_cells'), (a_s_course_notes, eI 288 s_course_notes)])) (her : (∀ (r' : Int32) (s_course_cells' : Nat → Int64), e = Sum.inr (r', s_course_cells') → (∀ (pc : Nat) (lv : List (Nat × Value)), narrow .int (.int r') = .int r' → decode cX1_findMend pc = .ok (.ireturn, 1) → V Γ 9 0 0 pc lv [.int r'] [(h0, eO 1 [.ref a_s_course]), (a_s_course, eO 3 [.ref a_s_course_cells, .ref a_s_course_notes, .int s_course_boards]), (a_s_course_cells, eJ 392 s_course_cells'), (a_s_course_notes, eI 288 s_course_notes)]))) : V Γ 9 0 0 74 [(0, .ref h0), (1, .int x1), (3, .int x3), (4, .int x4), (5, .int x5), (6, .int x6), (7, .int x7), (8, .int x8)] [] [(h0, eO 1 [.ref a_s_course]), (a_s_course, eO 3 [.ref a_s_course_cells, .ref a_s_course_notes, .int s_course_boards]), (a_s_course_cells, eJ 392 s_course_cells), (a_s_course_notes, eI 288 s_course_notes)] := by
  induction N generalizing x4 x8 s_course_cells with
  | zero => exact absurd hN (fun h => itr_0 h)
  | succ N ih =>
    obtain ⟨x, hx, hN⟩ := itr_s hN
    refine bX1_findMend_L74 C h0 a_s_course a_s_course_cells a_s_course_notes x1 x3 x5 x6 x7 s_course_boards s_course_notes x4 x8 s_course_cells x hx (fun x4' x8' s_course_cells' h => ih x4' x8' s_course_cells' (by subst h; exact hN)) (fun y0 y1 h => he0 y0 y1 (by subst h; exact (Option.some.inj hN).symm)) (fun y0 y1 h => her y0 y1 (by subst h; exact (Option.some.inj hN).symm))
def fX1_findMend_L33b (x1 : Int32) (x3 : Int32) (s_course_boards : Int32) (s_course_notes : Nat → Int32) (x4 : Int32) (x5 : Int32) (s_course_cells : Nat → Int64) : Option (((Int32) × (Int32) × (Nat → Int64)) ⊕ (((Int32) × (Nat → Int64)) ⊕ ((Int32) × (Nat → Int64)))) := if x5 < (16 : Int32) then Option.bind (fX1_mayMend x3 (x3 + (x5 / (8 : Int32))) (x5 % (8 : Int32)) s_course_cells s_course_notes) (fun r_6 => if r_6 = (0 : Int32) then some (Sum.inl (x4, x5 + (1 : Int32), s_course_cells)) else Option.bind (itr (fX1_findMend_L74 x1 x3 x5 (x3 + (x5 / (8 : Int32))) (x5 % (8 : Int32)) s_course_boards s_course_notes) KF (x4, (0 : Int32), s_course_cells)) (Sum.elim (un2 (fun x4_17 u_18 => some (Sum.inl (x4_17, x5 + (1 : Int32), u_18)))) (un2 (fun rr_19 rr_20 => some (Sum.inr (Sum.inr (rr_19, rr_20))))))) else some (Sum.inr (Sum.inl (x4, s_course_cells)))
def fX1_findMend_L33 (x1 : Int32) (x3 : Int32) (s_course_boards : Int32) (s_course_notes : Nat → Int32) : ((Int32) × (Int32) × (Nat → Int64)) → Option (((Int32) × (Int32) × (Nat → Int64)) ⊕ (((Int32) × (Nat → Int64)) ⊕ ((Int32) × (Nat → Int64)))) := fun e => fX1_findMend_L33b x1 x3 s_course_boards s_course_notes e.1 e.2.1 e.2.2
set_option maxHeartbeats 4000000 in
set_option maxRecDepth 100000 in
theorem bX1_findMend_L33 {Γ : KT} (C : CX Γ cX1_findMend 9 wsX1_findMend RX1 ({ frames := 7, cells := 0, slots := 0, locals := 172 } : Room)) (h0 : Nat) (a_s_course : Nat) (a_s_course_cells : Nat) (a_s_course_notes : Nat) (x1 : Int32) (x3 : Int32) (s_course_boards : Int32) (s_course_notes : Nat → Int32) (x4 : Int32) (x5 : Int32) (s_course_cells : Nat → Int64) (x : ((Int32) × (Int32) × (Nat → Int64)) ⊕ (((Int32) × (Nat → Int64)) ⊕ ((Int32) × (Nat → Int64)))) (hm : fX1_findMend_L33b x1 x3 s_course_boards s_course_notes x4 x5 s_course_cells = some x) (hb : (∀ (x4' : Int32) (x5' : Int32) (s_course_cells' : Nat → Int64), x = Sum.inl (x4', x5', s_course_cells') → V Γ 9 0 0 33 [(0, .ref h0), (1, .int x1), (3, .int x3), (4, .int x4'), (5, .int x5')] [] [(h0, eO 1 [.ref a_s_course]), (a_s_course, eO 3 [.ref a_s_course_cells, .ref a_s_course_notes, .int s_course_boards]), (a_s_course_cells, eJ 392 s_course_cells'), (a_s_course_notes, eI 288 s_course_notes)])) (he0 : (∀ (x4' : Int32) (s_course_cells' : Nat → Int64), x = Sum.inr (Sum.inl (x4', s_course_cells')) → V Γ 9 0 0 143 [(1, .int x1), (4, .int x4')] [] [(h0, eO 1 [.ref a_s_course]), (a_s_course, eO 3 [.ref a_s_course_cells, .ref a_s_course_notes, .int s_course_boards]), (a_s_course_cells, eJ 392 s_course_cells'), (a_s_course_notes, eI 288 s_course_notes)])) (her : (∀ (r' : Int32) (s_course_cells' : Nat → Int64), x = Sum.inr (Sum.inr (r', s_course_cells')) → (∀ (pc : Nat) (lv : List (Nat × Value)), narrow .int (.int r') = .int r' → decode cX1_findMend pc = .ok (.ireturn, 1) → V Γ 9 0 0 pc lv [.int r'] [(h0, eO 1 [.ref a_s_course]), (a_s_course, eO 3 [.ref a_s_course_cells, .ref a_s_course_notes, .int s_course_boards]), (a_s_course_cells, eJ 392 s_course_cells'), (a_s_course_notes, eI 288 s_course_notes)]))) : V Γ 9 0 0 33 [(0, .ref h0), (1, .int x1), (3, .int x3), (4, .int x4), (5, .int x5)] [] [(h0, eO 1 [.ref a_s_course]), (a_s_course, eO 3 [.ref a_s_course_cells, .ref a_s_course_notes, .int s_course_boards]), (a_s_course_cells, eJ 392 s_course_cells), (a_s_course_notes, eI 288 s_course_notes)] := by
  unfold fX1_findMend_L33b at hm
  refine V_iload C 4 dX1_findMend_33 rfl ?_
  refine V_bipush C (v := (16 : Int32)) dX1_findMend_35 (by decide) ?_
  refine V_icmp_ge C 143 dX1_findMend_37 (by decide) (fun c_5 => ?_) (fun c_5 => ?_)
  · have hm := ite_t c_5 hm
    refine V_iload_n C 2 dX1_findMend_40 rfl rfl ?_
    refine V_iload C 4 dX1_findMend_41 rfl ?_
    refine V_bipush C (v := (8 : Int32)) dX1_findMend_43 (by decide) ?_
    refine V_idivK C (by decide) dX1_findMend_45 ?_
    refine V_iadd C dX1_findMend_46 ?_
    refine V_istore C (lv' := [(6, .int (x3 + (x5 / (8 : Int32)))), (0, .ref h0), (1, .int x1), (3, .int x3), (4, .int x4), (5, .int x5)]) dX1_findMend_47 (by decide) rfl ?_
    refine V_iload C 5 dX1_findMend_49 rfl ?_
    refine V_bipush C (v := (8 : Int32)) dX1_findMend_51 (by decide) ?_
    refine V_iremK C (by decide) dX1_findMend_53 ?_
    refine V_istore C (lv' := [(7, .int (x5 % (8 : Int32))), (6, .int (x3 + (x5 / (8 : Int32)))), (0, .ref h0), (1, .int x1), (3, .int x3), (4, .int x4), (5, .int x5)]) dX1_findMend_54 (by decide) rfl ?_
    refine V_aload_n C 2 dX1_findMend_56 rfl rfl ?_
    refine V_iload_n C 4 dX1_findMend_57 rfl rfl ?_
    refine V_iload C 1 dX1_findMend_58 rfl ?_
    refine V_iload C 0 dX1_findMend_60 rfl ?_
    obtain ⟨r_6, hc_7, hm⟩ := bnd hm
    refine V_callVI C (As := [.int x3, .int (x3 + (x5 / (8 : Int32))), .int (x5 % (8 : Int32))]) (wr := []) (ws2 := [(h0, eO 1 [.ref a_s_course]), (a_s_course, eO 3 [.ref a_s_course_cells, .ref a_s_course_notes, .int s_course_boards]), (a_s_course_cells, eJ 392 s_course_cells), (a_s_course_notes, eI 288 s_course_notes)]) (kX1_mayMend h0 a_s_course a_s_course_cells a_s_course_notes s_course_boards s_course_cells s_course_notes x3 (x3 + (x5 / (8 : Int32))) (x5 % (8 : Int32)) r_6 hc_7) gX1_findMend_X1_mayMend rfl ⟨rfl, rfl⟩ hdX1_mayMend ⟨Nat.le_of_ble_eq_true rfl, Nat.le_of_ble_eq_true rfl⟩ ⟨Nat.zero_le _, Nat.zero_le _⟩ 0 rfl rfl [0, 1, 2, 3] [] [0, 1, 2, 3] rfl rfl ⟨rfl, rfl, rfl⟩ (by decide) rfl rfl (Nat.le_of_ble_eq_true rfl) dX1_findMend_62 ?_
    refine V_if_ne C 71 dX1_findMend_65 (by decide) (fun c_8 => ?_) (fun c_8 => ?_)
    · have hm := ite_t c_8 hm
      refine V_goto C 137 dX1_findMend_68 (by decide) ?_
      refine V_iinc C 6 (v := x5 + (1 : Int32)) (lv' := [(5, .int (x5 + (1 : Int32))), (7, .int (x5 % (8 : Int32))), (6, .int (x3 + (x5 / (8 : Int32)))), (0, .ref h0), (1, .int x1), (3, .int x3), (4, .int x4)]) dX1_findMend_137 rfl rfl (by decide) rfl ?_
      refine V_goto C 33 dX1_findMend_140 (by decide) ?_
      refine V_lv [3, 4, 5, 6, 0] rfl ?_
      exact hb x4 (x5 + (1 : Int32)) s_course_cells (Option.some.inj hm).symm
    · have hm := ite_f c_8 hm
      refine V_iconst C (v := (0 : Int32)) dX1_findMend_71 (by decide) ?_
      refine V_istore C (lv' := [(8, .int (0 : Int32)), (7, .int (x5 % (8 : Int32))), (6, .int (x3 + (x5 / (8 : Int32)))), (0, .ref h0), (1, .int x1), (3, .int x3), (4, .int x4), (5, .int x5)]) dX1_findMend_72 (by decide) rfl ?_
      obtain ⟨e_15, hE_16, hm⟩ := bnd hm
      refine V_lv [3, 4, 5, 6, 7, 2, 1, 0] rfl ?_
      refine lX1_findMend_L74 C h0 a_s_course a_s_course_cells a_s_course_notes x1 x3 x5 (x3 + (x5 / (8 : Int32))) (x5 % (8 : Int32)) s_course_boards s_course_notes x4 (0 : Int32) s_course_cells KF _ hE_16 ?_ ?_
      · intro x4_17 u_18 hq
        subst hq
        -- exit
        dsimp only [Sum.elim_inl, Sum.elim_inr, un2, un3, un4, un5, un6, un7, un8, un9, un10, un11] at hm
        refine V_iinc C 4 (v := x5 + (1 : Int32)) (lv' := [(5, .int (x5 + (1 : Int32))), (0, .ref h0), (1, .int x1), (3, .int x3), (4, .int x4_17)]) dX1_findMend_137 rfl rfl (by decide) rfl ?_
        refine V_goto C 33 dX1_findMend_140 (by decide) ?_
        refine V_lv [1, 2, 3, 4, 0] rfl ?_
        exact hb x4_17 (x5 + (1 : Int32)) u_18 (Option.some.inj hm).symm
      · intro rr_19 rr_20 hq
        subst hq
        dsimp only [Sum.elim_inl, Sum.elim_inr, un2, un3, un4, un5, un6, un7, un8, un9, un10, un11] at hm
        exact her rr_19 rr_20 (Option.some.inj hm).symm
  · have hm := ite_f c_5 hm
    refine V_lv [1, 3] rfl ?_
    exact he0 x4 s_course_cells (Option.some.inj hm).symm
theorem lX1_findMend_L33 {Γ : KT} (C : CX Γ cX1_findMend 9 wsX1_findMend RX1 ({ frames := 7, cells := 0, slots := 0, locals := 172 } : Room)) (h0 : Nat) (a_s_course : Nat) (a_s_course_cells : Nat) (a_s_course_notes : Nat) (x1 : Int32) (x3 : Int32) (s_course_boards : Int32) (s_course_notes : Nat → Int32) (x4 : Int32) (x5 : Int32) (s_course_cells : Nat → Int64) (N : Nat) (e : ((Int32) × (Nat → Int64)) ⊕ ((Int32) × (Nat → Int64))) (hN : itr (fX1_findMend_L33 x1 x3 s_course_boards s_course_notes) N (x4, x5, s_course_cells) = some e) (he0 : (∀ (x4' : Int32) (s_course_cells' : Nat → Int64), e = Sum.inl (x4', s_course_cells') → V Γ 9 0 0 143 [(1, .int x1), (4, .int x4')] [] [(h0, eO 1 [.ref a_s_course]), (a_s_course, eO 3 [.ref a_s_course_cells, .ref a_s_course_notes, .int s_course_boards]), (a_s_course_cells, eJ 392 s_course_cells'), (a_s_course_notes, eI 288 s_course_notes)])) (her : (∀ (r' : Int32) (s_course_cells' : Nat → Int64), e = Sum.inr (r', s_course_cells') → (∀ (pc : Nat) (lv : List (Nat × Value)), narrow .int (.int r') = .int r' → decode cX1_findMend pc = .ok (.ireturn, 1) → V Γ 9 0 0 pc lv [.int r'] [(h0, eO 1 [.ref a_s_course]), (a_s_course, eO 3 [.ref a_s_course_cells, .ref a_s_course_notes, .int s_course_boards]), (a_s_course_cells, eJ 392 s_course_cells'), (a_s_course_notes, eI 288 s_course_notes)]))) : V Γ 9 0 0 33 [(0, .ref h0), (1, .int x1), (3, .int x3), (4, .int x4), (5, .int x5)] [] [(h0, eO 1 [.ref a_s_course]), (a_s_course, eO 3 [.ref a_s_course_cells, .ref a_s_course_notes, .int s_course_boards]), (a_s_course_cells, eJ 392 s_course_cells), (a_s_course_notes, eI 288 s_course_notes)] := by
  induction N generalizing x4 x5 s_course_cells with
  | zero => exact absurd hN (fun h => itr_0 h)
  | succ N ih =>
    obtain ⟨x, hx, hN⟩ := itr_s hN
    refine bX1_findMend_L33 C h0 a_s_course a_s_course_cells a_s_course_notes x1 x3 s_course_boards s_course_notes x4 x5 s_course_cells x hx (fun x4' x5' s_course_cells' h => ih x4' x5' s_course_cells' (by subst h; exact hN)) (fun y0 y1 h => he0 y0 y1 (by subst h; exact (Option.some.inj hN).symm)) (fun y0 y1 h => her y0 y1 (by subst h; exact (Option.some.inj hN).symm))
def fX1_findMend (p0 : Int32) (s_course_boards : Int32) (s_course_cells : Nat → Int64) (s_course_notes : Nat → Int32) : Option ((Int32) × (Nat → Int64)) := Option.bind (fX1_blamed s_course_boards s_course_cells s_course_notes) (fun r_1 => if r_1 = (-6 : Int32) then if p0 = (-1 : Int32) then some ((0 : Int32), s_course_cells) else some ((-6 : Int32), s_course_cells) else Option.bind (itr (fX1_findMend_L33 p0 (r_1 - (1 : Int32)) s_course_boards s_course_notes) KF ((0 : Int32), (0 : Int32), s_course_cells)) (Sum.elim (un2 (fun x4_23 u_24 => if p0 = (-1 : Int32) then some (x4_23, u_24) else some ((-6 : Int32), u_24))) (un2 (fun rr_26 rr_27 => some (rr_26, rr_27)))))
set_option maxHeartbeats 4000000 in
set_option maxRecDepth 100000 in
theorem kX1_findMend {l : Launch} (h0 : Nat) (a_s_course : Nat) (a_s_course_cells : Nat) (a_s_course_notes : Nat) (s_course_boards : Int32) (s_course_cells : Nat → Int64) (s_course_notes : Nat → Int32) (p0 : Int32) (r : Int32) (o_s_course_cells : Nat → Int64) (hm : fX1_findMend p0 s_course_boards s_course_cells s_course_notes = some (r, o_s_course_cells)) : CtI l yX1_findMend wsX1_findMend ({ frames := 7, cells := 0, slots := 0, locals := 172 } : Room) [.ref h0, .int p0] [(h0, eO 1 [.ref a_s_course]), (a_s_course, eO 3 [.ref a_s_course_cells, .ref a_s_course_notes, .int s_course_boards]), (a_s_course_cells, eJ 392 s_course_cells), (a_s_course_notes, eI 288 s_course_notes)] r [(h0, eO 1 [.ref a_s_course]), (a_s_course, eO 3 [.ref a_s_course_cells, .ref a_s_course_notes, .int s_course_boards]), (a_s_course_cells, eJ 392 o_s_course_cells), (a_s_course_notes, eI 288 s_course_notes)] := by
  refine CtI_of (cc := cX1_findMend) (maxL := 9) (ty := .int) (own := RX1) rfl (by decide) rfl (lv0 := [(0, .ref h0), (1, .int p0)]) rfl (Nat.le_of_ble_eq_true rfl) (fun Γ hL C hR => ?_)
  subst hL
  unfold fX1_findMend at hm
  refine V_aload_n C 0 dX1_findMend_0 rfl rfl ?_
  obtain ⟨r_1, hc_2, hm⟩ := bnd hm
  refine V_callVI C (As := []) (wr := []) (ws2 := [(h0, eO 1 [.ref a_s_course]), (a_s_course, eO 3 [.ref a_s_course_cells, .ref a_s_course_notes, .int s_course_boards]), (a_s_course_cells, eJ 392 s_course_cells), (a_s_course_notes, eI 288 s_course_notes)]) (kX1_blamed h0 a_s_course a_s_course_cells a_s_course_notes s_course_boards s_course_cells s_course_notes r_1 hc_2) gX1_findMend_X1_blamed rfl ⟨rfl, rfl⟩ hdX1_blamed ⟨Nat.le_of_ble_eq_true rfl, Nat.le_of_ble_eq_true rfl⟩ ⟨Nat.zero_le _, Nat.zero_le _⟩ 0 rfl rfl [0, 1, 2, 3] [] [0, 1, 2, 3] rfl rfl ⟨rfl, rfl, rfl⟩ (by decide) rfl rfl (Nat.le_of_ble_eq_true rfl) dX1_findMend_1 ?_
  refine V_istore_n C (lv' := [(2, .int r_1), (0, .ref h0), (1, .int p0)]) dX1_findMend_4 rfl (by decide) rfl ?_
  refine V_iload_n C 0 dX1_findMend_5 rfl rfl ?_
  refine V_bipush C (v := (-6 : Int32)) dX1_findMend_6 (by decide) ?_
  refine V_icmp_ne C 23 dX1_findMend_8 (by decide) (fun c_3 => ?_) (fun c_3 => ?_)
  · have hm := ite_t c_3 hm
    refine V_iload_n C 2 dX1_findMend_11 rfl rfl ?_
    refine V_iconst C (v := (-1 : Int32)) dX1_findMend_12 (by decide) ?_
    refine V_icmp_ne C 20 dX1_findMend_13 (by decide) (fun c_4 => ?_) (fun c_4 => ?_)
    · have hm := ite_t c_4 hm
      refine V_iconst C (v := (0 : Int32)) dX1_findMend_16 (by decide) ?_
      refine V_goto C 22 dX1_findMend_17 (by decide) ?_
      cases hm
      exact hR _ _ rfl dX1_findMend_22
    · have hm := ite_f c_4 hm
      refine V_bipush C (v := (-6 : Int32)) dX1_findMend_20 (by decide) ?_
      cases hm
      exact hR _ _ rfl dX1_findMend_22
  · have hm := ite_f c_3 hm
    refine V_iload_n C 0 dX1_findMend_23 rfl rfl ?_
    refine V_iconst C (v := (1 : Int32)) dX1_findMend_24 (by decide) ?_
    refine V_isub C dX1_findMend_25 ?_
    refine V_istore_n C (lv' := [(3, .int (r_1 - (1 : Int32))), (2, .int r_1), (0, .ref h0), (1, .int p0)]) dX1_findMend_26 rfl (by decide) rfl ?_
    refine V_iconst C (v := (0 : Int32)) dX1_findMend_27 (by decide) ?_
    refine V_istore C (lv' := [(4, .int (0 : Int32)), (3, .int (r_1 - (1 : Int32))), (2, .int r_1), (0, .ref h0), (1, .int p0)]) dX1_findMend_28 (by decide) rfl ?_
    refine V_iconst C (v := (0 : Int32)) dX1_findMend_30 (by decide) ?_
    refine V_istore C (lv' := [(5, .int (0 : Int32)), (4, .int (0 : Int32)), (3, .int (r_1 - (1 : Int32))), (2, .int r_1), (0, .ref h0), (1, .int p0)]) dX1_findMend_31 (by decide) rfl ?_
    obtain ⟨e_21, hE_22, hm⟩ := bnd hm
    refine V_lv [4, 5, 2, 1, 0] rfl ?_
    refine lX1_findMend_L33 C h0 a_s_course a_s_course_cells a_s_course_notes p0 (r_1 - (1 : Int32)) s_course_boards s_course_notes (0 : Int32) (0 : Int32) s_course_cells KF _ hE_22 ?_ ?_
    · intro x4_23 u_24 hq
      subst hq
      -- exit
      dsimp only [Sum.elim_inl, Sum.elim_inr, un2, un3, un4, un5, un6, un7, un8, un9, un10, un11] at hm
      refine V_iload_n C 0 dX1_findMend_143 rfl rfl ?_
      refine V_iconst C (v := (-1 : Int32)) dX1_findMend_144 (by decide) ?_
      refine V_icmp_ne C 153 dX1_findMend_145 (by decide) (fun c_25 => ?_) (fun c_25 => ?_)
      · have hm := ite_t c_25 hm
        refine V_iload C 1 dX1_findMend_148 rfl ?_
        refine V_goto C 155 dX1_findMend_150 (by decide) ?_
        cases hm
        exact hR _ _ rfl dX1_findMend_155
      · have hm := ite_f c_25 hm
        refine V_bipush C (v := (-6 : Int32)) dX1_findMend_153 (by decide) ?_
        cases hm
        exact hR _ _ rfl dX1_findMend_155
    · intro rr_26 rr_27 hq
      subst hq
      dsimp only [Sum.elim_inl, Sum.elim_inr, un2, un3, un4, un5, un6, un7, un8, un9, un10, un11] at hm
      cases hm
      exact hR
theorem hdX1_findMend : yX1_findMend.cls = RX1 ∧ yX1_findMend.cls ≠ "java/lang/invoke/MethodHandle" ∧ yX1_findMend.cls ≠ "java/lang/invoke/VarHandle" ∧ (parseMethodDescriptor yX1_findMend.desc).map (fun d => d.parameters.length) = some 1 := by decide +kernel
-- RodBoard$Clerk.agrees(I)Z
theorem uX1_agrees_X1 : ∀ w ∈ wsX10, w ∈ wsX1_agrees := fun _ h => List.mem_cons_of_mem _ (List.mem_append_left _ (List.mem_append_right _ h))
theorem mX1_agrees_1 : Cond.fieldLink RX1 12 "RodBoard$Clerk" "course" "LRodBoard$Course;" ∈ wsX1_agrees := List.mem_of_getElem? (i := 1) rfl
theorem mX1_agrees_2 : Cond.constantLong RX1 41 (-1000000000000000) ∈ wsX1_agrees := List.mem_of_getElem? (i := 2) rfl
def fX1_agrees_L2b (x1 : Int32) (s_course_cells : Nat → Int64) (s_course_notes : Nat → Int32) (x2 : Int32) : Option (((Int32)) ⊕ ((Unit) ⊕ ((Int32)))) := if x2 < (8 : Int32) then Option.bind (fX3_walked (x1 - (1 : Int32)) x2 s_course_cells s_course_notes) (fun r_2 => Option.bind (fX3_cell x1 x2 s_course_cells) (fun r_4 => if r_2 = (-1000000000000000 : Int64) then some (Sum.inr (Sum.inr (0 : Int32))) else if r_4 = (-1000000000000000 : Int64) then some (Sum.inl (x2 + (1 : Int32))) else if r_4 = r_2 then some (Sum.inl (x2 + (1 : Int32))) else some (Sum.inr (Sum.inr (0 : Int32))))) else some (Sum.inr (Sum.inl ()))
def fX1_agrees_L2 (x1 : Int32) (s_course_cells : Nat → Int64) (s_course_notes : Nat → Int32) : ((Int32)) → Option (((Int32)) ⊕ ((Unit) ⊕ ((Int32)))) := fun e => fX1_agrees_L2b x1 s_course_cells s_course_notes e
set_option maxHeartbeats 4000000 in
set_option maxRecDepth 100000 in
theorem bX1_agrees_L2 {Γ : KT} (C : CX Γ cX1_agrees 7 wsX1_agrees RX1 ({ frames := 4, cells := 0, slots := 0, locals := 98 } : Room)) (h0 : Nat) (a_s_course : Nat) (a_s_course_cells : Nat) (a_s_course_notes : Nat) (x1 : Int32) (s_course_boards : Int32) (s_course_cells : Nat → Int64) (s_course_notes : Nat → Int32) (x2 : Int32) (x : ((Int32)) ⊕ ((Unit) ⊕ ((Int32)))) (hm : fX1_agrees_L2b x1 s_course_cells s_course_notes x2 = some x) (hb : (∀ (x2' : Int32), x = Sum.inl x2' → V Γ 7 0 0 2 [(0, .ref h0), (1, .int x1), (2, .int x2')] [] [(h0, eO 1 [.ref a_s_course]), (a_s_course, eO 3 [.ref a_s_course_cells, .ref a_s_course_notes, .int s_course_boards]), (a_s_course_cells, eJ 392 s_course_cells), (a_s_course_notes, eI 288 s_course_notes)])) (he0 : (∀ (_ : Unit), x = Sum.inr (Sum.inl ()) → V Γ 7 0 0 63 [] [] [(h0, eO 1 [.ref a_s_course]), (a_s_course, eO 3 [.ref a_s_course_cells, .ref a_s_course_notes, .int s_course_boards]), (a_s_course_cells, eJ 392 s_course_cells), (a_s_course_notes, eI 288 s_course_notes)])) (her : (∀ (r' : Int32), x = Sum.inr (Sum.inr r') → (∀ (pc : Nat) (lv : List (Nat × Value)), narrow .boolean (.int r') = .int r' → decode cX1_agrees pc = .ok (.ireturn, 1) → V Γ 7 0 0 pc lv [.int r'] [(h0, eO 1 [.ref a_s_course]), (a_s_course, eO 3 [.ref a_s_course_cells, .ref a_s_course_notes, .int s_course_boards]), (a_s_course_cells, eJ 392 s_course_cells), (a_s_course_notes, eI 288 s_course_notes)]))) : V Γ 7 0 0 2 [(0, .ref h0), (1, .int x1), (2, .int x2)] [] [(h0, eO 1 [.ref a_s_course]), (a_s_course, eO 3 [.ref a_s_course_cells, .ref a_s_course_notes, .int s_course_boards]), (a_s_course_cells, eJ 392 s_course_cells), (a_s_course_notes, eI 288 s_course_notes)] := by
  unfold fX1_agrees_L2b at hm
  refine V_iload_n C 2 dX1_agrees_2 rfl rfl ?_
  refine V_bipush C (v := (8 : Int32)) dX1_agrees_3 (by decide) ?_
  refine V_icmp_ge C 63 dX1_agrees_5 (by decide) (fun c_1 => ?_) (fun c_1 => ?_)
  · have hm := ite_t c_1 hm
    refine V_aload_n C 0 dX1_agrees_8 rfl rfl ?_
    refine V_get C uX1_agrees_X1 0 0 rfl rfl (by decide) mX1_agrees_1 rfl dX1_agrees_9 ?_
    refine V_iload_n C 1 dX1_agrees_12 rfl rfl ?_
    refine V_iconst C (v := (1 : Int32)) dX1_agrees_13 (by decide) ?_
    refine V_isub C dX1_agrees_14 ?_
    refine V_iload_n C 2 dX1_agrees_15 rfl rfl ?_
    obtain ⟨r_2, hc_3, hm⟩ := bnd hm
    refine V_callVL C (As := [.int (x1 - (1 : Int32)), .int x2]) (wr := [(h0, eO 1 [.ref a_s_course])]) (ws2 := [(h0, eO 1 [.ref a_s_course]), (a_s_course, eO 3 [.ref a_s_course_cells, .ref a_s_course_notes, .int s_course_boards]), (a_s_course_cells, eJ 392 s_course_cells), (a_s_course_notes, eI 288 s_course_notes)]) (kX3_walked a_s_course a_s_course_cells a_s_course_notes s_course_boards s_course_cells s_course_notes (x1 - (1 : Int32)) x2 r_2 hc_3) gX1_agrees_X3_walked rfl ⟨rfl, rfl⟩ hdX3_walked ⟨Nat.le_of_ble_eq_true rfl, Nat.le_of_ble_eq_true rfl⟩ ⟨Nat.zero_le _, Nat.zero_le _⟩ 0 rfl rfl [1, 2, 3] [0] [0, 1, 2, 3] rfl rfl ⟨rfl, rfl, rfl⟩ (by decide) rfl rfl (Nat.le_of_ble_eq_true rfl) dX1_agrees_16 ?_
    refine V_lstore_n C (lv' := [(3, .long r_2), (0, .ref h0), (1, .int x1), (2, .int x2)]) dX1_agrees_19 rfl (by decide) rfl ?_
    refine V_aload_n C 1 dX1_agrees_20 rfl rfl ?_
    refine V_get C uX1_agrees_X1 0 0 rfl rfl (by decide) mX1_agrees_1 rfl dX1_agrees_21 ?_
    refine V_iload_n C 2 dX1_agrees_24 rfl rfl ?_
    refine V_iload_n C 3 dX1_agrees_25 rfl rfl ?_
    obtain ⟨r_4, hc_5, hm⟩ := bnd hm
    refine V_callVL C (As := [.int x1, .int x2]) (wr := [(h0, eO 1 [.ref a_s_course])]) (ws2 := [(h0, eO 1 [.ref a_s_course]), (a_s_course, eO 3 [.ref a_s_course_cells, .ref a_s_course_notes, .int s_course_boards]), (a_s_course_cells, eJ 392 s_course_cells), (a_s_course_notes, eI 288 s_course_notes)]) (kX3_cell a_s_course a_s_course_cells a_s_course_notes s_course_boards s_course_cells s_course_notes x1 x2 r_4 hc_5) gX1_agrees_X3_cell rfl ⟨rfl, rfl⟩ hdX3_cell ⟨Nat.le_of_ble_eq_true rfl, Nat.le_of_ble_eq_true rfl⟩ ⟨Nat.zero_le _, Nat.zero_le _⟩ 0 rfl rfl [1, 2, 3] [0] [0, 1, 2, 3] rfl rfl ⟨rfl, rfl, rfl⟩ (by decide) rfl rfl (Nat.le_of_ble_eq_true rfl) dX1_agrees_26 ?_
    refine V_lstore C (lv' := [(5, .long r_4), (3, .long r_2), (0, .ref h0), (1, .int x1), (2, .int x2)]) dX1_agrees_29 (by decide) rfl ?_
    refine V_lload_n C 1 dX1_agrees_31 rfl rfl ?_
    refine V_ldc2 C (v := (-1000000000000000 : Int64)) mX1_agrees_2 dX1_agrees_32 ?_
    refine V_lcmp_eq C 55 dX1_agrees_35 dX1_agrees_36 (by decide) (fun c_6 => ?_) (fun c_6 => ?_)
    · have hm := ite_t c_6 hm
      refine V_iconst C (v := (0 : Int32)) dX1_agrees_55 (by decide) ?_
      exact her (0 : Int32) (Option.some.inj hm).symm _ _ rfl dX1_agrees_56
    · have hm := ite_f c_6 hm
      refine V_lload C 0 dX1_agrees_39 rfl ?_
      refine V_ldc2 C (v := (-1000000000000000 : Int64)) mX1_agrees_2 dX1_agrees_41 ?_
      refine V_lcmp_eq C 57 dX1_agrees_44 dX1_agrees_45 (by decide) (fun c_7 => ?_) (fun c_7 => ?_)
      · have hm := ite_t c_7 hm
        refine V_iinc C 4 (v := x2 + (1 : Int32)) (lv' := [(2, .int (x2 + (1 : Int32))), (5, .long r_4), (3, .long r_2), (0, .ref h0), (1, .int x1)]) dX1_agrees_57 rfl rfl (by decide) rfl ?_
        refine V_goto C 2 dX1_agrees_60 (by decide) ?_
        refine V_lv [3, 4, 0] rfl ?_
        exact hb (x2 + (1 : Int32)) (Option.some.inj hm).symm
      · have hm := ite_f c_7 hm
        refine V_lload C 0 dX1_agrees_48 rfl ?_
        refine V_lload_n C 1 dX1_agrees_50 rfl rfl ?_
        refine V_lcmp_eq C 57 dX1_agrees_51 dX1_agrees_52 (by decide) (fun c_8 => ?_) (fun c_8 => ?_)
        · have hm := ite_t c_8 hm
          refine V_iinc C 4 (v := x2 + (1 : Int32)) (lv' := [(2, .int (x2 + (1 : Int32))), (5, .long r_4), (3, .long r_2), (0, .ref h0), (1, .int x1)]) dX1_agrees_57 rfl rfl (by decide) rfl ?_
          refine V_goto C 2 dX1_agrees_60 (by decide) ?_
          refine V_lv [3, 4, 0] rfl ?_
          exact hb (x2 + (1 : Int32)) (Option.some.inj hm).symm
        · have hm := ite_f c_8 hm
          refine V_iconst C (v := (0 : Int32)) dX1_agrees_55 (by decide) ?_
          exact her (0 : Int32) (Option.some.inj hm).symm _ _ rfl dX1_agrees_56
  · have hm := ite_f c_1 hm
    refine V_lv [] rfl ?_
    exact he0 () (Option.some.inj hm).symm
theorem lX1_agrees_L2 {Γ : KT} (C : CX Γ cX1_agrees 7 wsX1_agrees RX1 ({ frames := 4, cells := 0, slots := 0, locals := 98 } : Room)) (h0 : Nat) (a_s_course : Nat) (a_s_course_cells : Nat) (a_s_course_notes : Nat) (x1 : Int32) (s_course_boards : Int32) (s_course_cells : Nat → Int64) (s_course_notes : Nat → Int32) (x2 : Int32) (N : Nat) (e : (Unit) ⊕ ((Int32))) (hN : itr (fX1_agrees_L2 x1 s_course_cells s_course_notes) N x2 = some e) (he0 : (∀ (_ : Unit), e = Sum.inl () → V Γ 7 0 0 63 [] [] [(h0, eO 1 [.ref a_s_course]), (a_s_course, eO 3 [.ref a_s_course_cells, .ref a_s_course_notes, .int s_course_boards]), (a_s_course_cells, eJ 392 s_course_cells), (a_s_course_notes, eI 288 s_course_notes)])) (her : (∀ (r' : Int32), e = Sum.inr r' → (∀ (pc : Nat) (lv : List (Nat × Value)), narrow .boolean (.int r') = .int r' → decode cX1_agrees pc = .ok (.ireturn, 1) → V Γ 7 0 0 pc lv [.int r'] [(h0, eO 1 [.ref a_s_course]), (a_s_course, eO 3 [.ref a_s_course_cells, .ref a_s_course_notes, .int s_course_boards]), (a_s_course_cells, eJ 392 s_course_cells), (a_s_course_notes, eI 288 s_course_notes)]))) : V Γ 7 0 0 2 [(0, .ref h0), (1, .int x1), (2, .int x2)] [] [(h0, eO 1 [.ref a_s_course]), (a_s_course, eO 3 [.ref a_s_course_cells, .ref a_s_course_notes, .int s_course_boards]), (a_s_course_cells, eJ 392 s_course_cells), (a_s_course_notes, eI 288 s_course_notes)] := by
  induction N generalizing x2 with
  | zero => exact absurd hN (fun h => itr_0 h)
  | succ N ih =>
    obtain ⟨x, hx, hN⟩ := itr_s hN
    refine bX1_agrees_L2 C h0 a_s_course a_s_course_cells a_s_course_notes x1 s_course_boards s_course_cells s_course_notes x2 x hx (fun x2' h => ih x2' (by subst h; exact hN)) (fun _ h => he0 () (by subst h; exact (Option.some.inj hN).symm)) (fun y0 h => her y0 (by subst h; exact (Option.some.inj hN).symm))
def fX1_agrees (p0 : Int32) (s_course_cells : Nat → Int64) (s_course_notes : Nat → Int32) : Option ((Int32)) := Option.bind (itr (fX1_agrees_L2 p0 s_course_cells s_course_notes) KF (0 : Int32)) (Sum.elim (fun (_ : Unit) => some (1 : Int32)) (fun rr_11 => some rr_11))
set_option maxHeartbeats 4000000 in
set_option maxRecDepth 100000 in
theorem kX1_agrees {l : Launch} (h0 : Nat) (a_s_course : Nat) (a_s_course_cells : Nat) (a_s_course_notes : Nat) (s_course_boards : Int32) (s_course_cells : Nat → Int64) (s_course_notes : Nat → Int32) (p0 : Int32) (r : Int32) (hm : fX1_agrees p0 s_course_cells s_course_notes = some r) : CtI l yX1_agrees wsX1_agrees ({ frames := 4, cells := 0, slots := 0, locals := 98 } : Room) [.ref h0, .int p0] [(h0, eO 1 [.ref a_s_course]), (a_s_course, eO 3 [.ref a_s_course_cells, .ref a_s_course_notes, .int s_course_boards]), (a_s_course_cells, eJ 392 s_course_cells), (a_s_course_notes, eI 288 s_course_notes)] r [(h0, eO 1 [.ref a_s_course]), (a_s_course, eO 3 [.ref a_s_course_cells, .ref a_s_course_notes, .int s_course_boards]), (a_s_course_cells, eJ 392 s_course_cells), (a_s_course_notes, eI 288 s_course_notes)] := by
  refine CtI_of (cc := cX1_agrees) (maxL := 7) (ty := .boolean) (own := RX1) rfl (by decide) rfl (lv0 := [(0, .ref h0), (1, .int p0)]) rfl (Nat.le_of_ble_eq_true rfl) (fun Γ hL C hR => ?_)
  subst hL
  unfold fX1_agrees at hm
  refine V_iconst C (v := (0 : Int32)) dX1_agrees_0 (by decide) ?_
  refine V_istore_n C (lv' := [(2, .int (0 : Int32)), (0, .ref h0), (1, .int p0)]) dX1_agrees_1 rfl (by decide) rfl ?_
  obtain ⟨e_9, hE_10, hm⟩ := bnd hm
  refine V_lv [1, 2, 0] rfl ?_
  refine lX1_agrees_L2 C h0 a_s_course a_s_course_cells a_s_course_notes p0 s_course_boards s_course_cells s_course_notes (0 : Int32) KF _ hE_10 ?_ ?_
  · intro _ hq
    subst hq
    -- exit
    dsimp only [Sum.elim_inl, Sum.elim_inr, un2, un3, un4, un5, un6, un7, un8, un9, un10, un11] at hm
    refine V_iconst C (v := (1 : Int32)) dX1_agrees_63 (by decide) ?_
    cases hm
    exact hR _ _ rfl dX1_agrees_64
  · intro rr_11 hq
    subst hq
    dsimp only [Sum.elim_inl, Sum.elim_inr, un2, un3, un4, un5, un6, un7, un8, un9, un10, un11] at hm
    cases hm
    exact hR
theorem hdX1_agrees : yX1_agrees.cls = RX1 ∧ yX1_agrees.cls ≠ "java/lang/invoke/MethodHandle" ∧ yX1_agrees.cls ≠ "java/lang/invoke/VarHandle" ∧ (parseMethodDescriptor yX1_agrees.desc).map (fun d => d.parameters.length) = some 1 := by decide +kernel
-- RodBoard$Clerk.fillBoard(I)I
theorem uX1_fillBoard_X1 : ∀ w ∈ wsX10, w ∈ wsX1_fillBoard := fun _ h => List.mem_cons_of_mem _ (List.mem_append_left _ (List.mem_append_right _ h))
theorem mX1_fillBoard_1 : Cond.fieldLink RX1 12 "RodBoard$Clerk" "course" "LRodBoard$Course;" ∈ wsX1_fillBoard := List.mem_of_getElem? (i := 1) rfl
def fX1_fillBoard_L4b (x1 : Int32) (s_course_notes : Nat → Int32) (x2 : Int32) (x3 : Int32) (s_course_cells : Nat → Int64) : Option (((Int32) × (Int32) × (Nat → Int64)) ⊕ ((Int32) × (Nat → Int64))) := if x3 < (8 : Int32) then Option.bind (fX3_walked (x1 - (1 : Int32)) x3 s_course_cells s_course_notes) (fun r_2 => bn2 (fX1_change x1 x3 r_2 s_course_cells) (fun r_4 w_5 => some (Sum.inl (x2 + r_4, x3 + (1 : Int32), w_5)))) else some (Sum.inr (x2, s_course_cells))
def fX1_fillBoard_L4 (x1 : Int32) (s_course_notes : Nat → Int32) : ((Int32) × (Int32) × (Nat → Int64)) → Option (((Int32) × (Int32) × (Nat → Int64)) ⊕ ((Int32) × (Nat → Int64))) := fun e => fX1_fillBoard_L4b x1 s_course_notes e.1 e.2.1 e.2.2
set_option maxHeartbeats 4000000 in
set_option maxRecDepth 100000 in
theorem bX1_fillBoard_L4 {Γ : KT} (C : CX Γ cX1_fillBoard 4 wsX1_fillBoard RX1 ({ frames := 4, cells := 0, slots := 0, locals := 98 } : Room)) (h0 : Nat) (a_s_course : Nat) (a_s_course_cells : Nat) (a_s_course_notes : Nat) (x1 : Int32) (s_course_boards : Int32) (s_course_notes : Nat → Int32) (x2 : Int32) (x3 : Int32) (s_course_cells : Nat → Int64) (x : ((Int32) × (Int32) × (Nat → Int64)) ⊕ ((Int32) × (Nat → Int64))) (hm : fX1_fillBoard_L4b x1 s_course_notes x2 x3 s_course_cells = some x) (hb : (∀ (x2' : Int32) (x3' : Int32) (s_course_cells' : Nat → Int64), x = Sum.inl (x2', x3', s_course_cells') → V Γ 4 0 0 4 [(0, .ref h0), (1, .int x1), (2, .int x2'), (3, .int x3')] [] [(h0, eO 1 [.ref a_s_course]), (a_s_course, eO 3 [.ref a_s_course_cells, .ref a_s_course_notes, .int s_course_boards]), (a_s_course_cells, eJ 392 s_course_cells'), (a_s_course_notes, eI 288 s_course_notes)])) (he0 : (∀ (x2' : Int32) (s_course_cells' : Nat → Int64), x = Sum.inr (x2', s_course_cells') → V Γ 4 0 0 36 [(2, .int x2')] [] [(h0, eO 1 [.ref a_s_course]), (a_s_course, eO 3 [.ref a_s_course_cells, .ref a_s_course_notes, .int s_course_boards]), (a_s_course_cells, eJ 392 s_course_cells'), (a_s_course_notes, eI 288 s_course_notes)])) : V Γ 4 0 0 4 [(0, .ref h0), (1, .int x1), (2, .int x2), (3, .int x3)] [] [(h0, eO 1 [.ref a_s_course]), (a_s_course, eO 3 [.ref a_s_course_cells, .ref a_s_course_notes, .int s_course_boards]), (a_s_course_cells, eJ 392 s_course_cells), (a_s_course_notes, eI 288 s_course_notes)] := by
  unfold fX1_fillBoard_L4b at hm
  refine V_iload_n C 3 dX1_fillBoard_4 rfl rfl ?_
  refine V_bipush C (v := (8 : Int32)) dX1_fillBoard_5 (by decide) ?_
  refine V_icmp_ge C 36 dX1_fillBoard_7 (by decide) (fun c_1 => ?_) (fun c_1 => ?_)
  · have hm := ite_t c_1 hm
    refine V_iload_n C 2 dX1_fillBoard_10 rfl rfl ?_
    refine V_aload_n C 0 dX1_fillBoard_11 rfl rfl ?_
    refine V_iload_n C 1 dX1_fillBoard_12 rfl rfl ?_
    refine V_iload_n C 3 dX1_fillBoard_13 rfl rfl ?_
    refine V_aload_n C 0 dX1_fillBoard_14 rfl rfl ?_
    refine V_get C uX1_fillBoard_X1 0 0 rfl rfl (by decide) mX1_fillBoard_1 rfl dX1_fillBoard_15 ?_
    refine V_iload_n C 1 dX1_fillBoard_18 rfl rfl ?_
    refine V_iconst C (v := (1 : Int32)) dX1_fillBoard_19 (by decide) ?_
    refine V_isub C dX1_fillBoard_20 ?_
    refine V_iload_n C 3 dX1_fillBoard_21 rfl rfl ?_
    obtain ⟨r_2, hc_3, hm⟩ := bnd hm
    refine V_callVL C (As := [.int (x1 - (1 : Int32)), .int x3]) (wr := [(h0, eO 1 [.ref a_s_course])]) (ws2 := [(h0, eO 1 [.ref a_s_course]), (a_s_course, eO 3 [.ref a_s_course_cells, .ref a_s_course_notes, .int s_course_boards]), (a_s_course_cells, eJ 392 s_course_cells), (a_s_course_notes, eI 288 s_course_notes)]) (kX3_walked a_s_course a_s_course_cells a_s_course_notes s_course_boards s_course_cells s_course_notes (x1 - (1 : Int32)) x3 r_2 hc_3) gX1_fillBoard_X3_walked rfl ⟨rfl, rfl⟩ hdX3_walked ⟨Nat.le_of_ble_eq_true rfl, Nat.le_of_ble_eq_true rfl⟩ ⟨Nat.zero_le _, Nat.zero_le _⟩ 0 rfl rfl [1, 2, 3] [0] [0, 1, 2, 3] rfl rfl ⟨rfl, rfl, rfl⟩ (by decide) rfl rfl (Nat.le_of_ble_eq_true rfl) dX1_fillBoard_22 ?_
    obtain ⟨r_4, w_5, hc_6, hm⟩ := bd2 hm
    refine V_callVI C (As := [.int x1, .int x3, .long r_2]) (wr := []) (ws2 := [(h0, eO 1 [.ref a_s_course]), (a_s_course, eO 3 [.ref a_s_course_cells, .ref a_s_course_notes, .int s_course_boards]), (a_s_course_cells, eJ 392 w_5), (a_s_course_notes, eI 288 s_course_notes)]) (kX1_change h0 a_s_course a_s_course_cells a_s_course_notes s_course_boards s_course_cells s_course_notes x1 x3 r_2 r_4 w_5 hc_6) gX1_fillBoard_X1_change rfl ⟨rfl, rfl⟩ hdX1_change ⟨Nat.le_of_ble_eq_true rfl, Nat.le_of_ble_eq_true rfl⟩ ⟨Nat.zero_le _, Nat.zero_le _⟩ 0 rfl rfl [0, 1, 2, 3] [] [0, 1, 2, 3] rfl rfl ⟨rfl, rfl, rfl⟩ (by decide) rfl rfl (Nat.le_of_ble_eq_true rfl) dX1_fillBoard_25 ?_
    refine V_iadd C dX1_fillBoard_28 ?_
    refine V_istore_n C (lv' := [(2, .int (x2 + r_4)), (0, .ref h0), (1, .int x1), (3, .int x3)]) dX1_fillBoard_29 rfl (by decide) rfl ?_
    refine V_iinc C 3 (v := x3 + (1 : Int32)) (lv' := [(3, .int (x3 + (1 : Int32))), (2, .int (x2 + r_4)), (0, .ref h0), (1, .int x1)]) dX1_fillBoard_30 rfl rfl (by decide) rfl ?_
    refine V_goto C 4 dX1_fillBoard_33 (by decide) ?_
    refine V_lv [2, 3, 1, 0] rfl ?_
    exact hb (x2 + r_4) (x3 + (1 : Int32)) w_5 (Option.some.inj hm).symm
  · have hm := ite_f c_1 hm
    refine V_lv [2] rfl ?_
    exact he0 x2 s_course_cells (Option.some.inj hm).symm
theorem lX1_fillBoard_L4 {Γ : KT} (C : CX Γ cX1_fillBoard 4 wsX1_fillBoard RX1 ({ frames := 4, cells := 0, slots := 0, locals := 98 } : Room)) (h0 : Nat) (a_s_course : Nat) (a_s_course_cells : Nat) (a_s_course_notes : Nat) (x1 : Int32) (s_course_boards : Int32) (s_course_notes : Nat → Int32) (x2 : Int32) (x3 : Int32) (s_course_cells : Nat → Int64) (N : Nat) (e : (Int32) × (Nat → Int64)) (hN : itr (fX1_fillBoard_L4 x1 s_course_notes) N (x2, x3, s_course_cells) = some e) (he0 : (∀ (x2' : Int32) (s_course_cells' : Nat → Int64), e = (x2', s_course_cells') → V Γ 4 0 0 36 [(2, .int x2')] [] [(h0, eO 1 [.ref a_s_course]), (a_s_course, eO 3 [.ref a_s_course_cells, .ref a_s_course_notes, .int s_course_boards]), (a_s_course_cells, eJ 392 s_course_cells'), (a_s_course_notes, eI 288 s_course_notes)])) : V Γ 4 0 0 4 [(0, .ref h0), (1, .int x1), (2, .int x2), (3, .int x3)] [] [(h0, eO 1 [.ref a_s_course]), (a_s_course, eO 3 [.ref a_s_course_cells, .ref a_s_course_notes, .int s_course_boards]), (a_s_course_cells, eJ 392 s_course_cells), (a_s_course_notes, eI 288 s_course_notes)] := by
  induction N generalizing x2 x3 s_course_cells with
  | zero => exact absurd hN (fun h => itr_0 h)
  | succ N ih =>
    obtain ⟨x, hx, hN⟩ := itr_s hN
    refine bX1_fillBoard_L4 C h0 a_s_course a_s_course_cells a_s_course_notes x1 s_course_boards s_course_notes x2 x3 s_course_cells x hx (fun x2' x3' s_course_cells' h => ih x2' x3' s_course_cells' (by subst h; exact hN)) (fun y0 y1 h => he0 y0 y1 (by subst h; exact (Option.some.inj hN).symm))
def fX1_fillBoard (p0 : Int32) (s_course_cells : Nat → Int64) (s_course_notes : Nat → Int32) : Option ((Int32) × (Nat → Int64)) := bn2 (itr (fX1_fillBoard_L4 p0 s_course_notes) KF ((0 : Int32), (0 : Int32), s_course_cells)) (fun x2_9 u_10 => some (x2_9, u_10))
set_option maxHeartbeats 4000000 in
set_option maxRecDepth 100000 in
theorem kX1_fillBoard {l : Launch} (h0 : Nat) (a_s_course : Nat) (a_s_course_cells : Nat) (a_s_course_notes : Nat) (s_course_boards : Int32) (s_course_cells : Nat → Int64) (s_course_notes : Nat → Int32) (p0 : Int32) (r : Int32) (o_s_course_cells : Nat → Int64) (hm : fX1_fillBoard p0 s_course_cells s_course_notes = some (r, o_s_course_cells)) : CtI l yX1_fillBoard wsX1_fillBoard ({ frames := 4, cells := 0, slots := 0, locals := 98 } : Room) [.ref h0, .int p0] [(h0, eO 1 [.ref a_s_course]), (a_s_course, eO 3 [.ref a_s_course_cells, .ref a_s_course_notes, .int s_course_boards]), (a_s_course_cells, eJ 392 s_course_cells), (a_s_course_notes, eI 288 s_course_notes)] r [(h0, eO 1 [.ref a_s_course]), (a_s_course, eO 3 [.ref a_s_course_cells, .ref a_s_course_notes, .int s_course_boards]), (a_s_course_cells, eJ 392 o_s_course_cells), (a_s_course_notes, eI 288 s_course_notes)] := by
  refine CtI_of (cc := cX1_fillBoard) (maxL := 4) (ty := .int) (own := RX1) rfl (by decide) rfl (lv0 := [(0, .ref h0), (1, .int p0)]) rfl (Nat.le_of_ble_eq_true rfl) (fun Γ hL C hR => ?_)
  subst hL
  unfold fX1_fillBoard at hm
  refine V_iconst C (v := (0 : Int32)) dX1_fillBoard_0 (by decide) ?_
  refine V_istore_n C (lv' := [(2, .int (0 : Int32)), (0, .ref h0), (1, .int p0)]) dX1_fillBoard_1 rfl (by decide) rfl ?_
  refine V_iconst C (v := (0 : Int32)) dX1_fillBoard_2 (by decide) ?_
  refine V_istore_n C (lv' := [(3, .int (0 : Int32)), (2, .int (0 : Int32)), (0, .ref h0), (1, .int p0)]) dX1_fillBoard_3 rfl (by decide) rfl ?_
  obtain ⟨x2_9, u_10, hE_8, hm⟩ := bd2 hm
  refine V_lv [2, 3, 1, 0] rfl ?_
  refine lX1_fillBoard_L4 C h0 a_s_course a_s_course_cells a_s_course_notes p0 s_course_boards s_course_notes (0 : Int32) (0 : Int32) s_course_cells KF _ hE_8 ?_
  intro q_11 q_12 hq
  cases hq
  refine V_iload_n C 0 dX1_fillBoard_36 rfl rfl ?_
  cases hm
  exact hR _ _ rfl dX1_fillBoard_37
theorem hdX1_fillBoard : yX1_fillBoard.cls = RX1 ∧ yX1_fillBoard.cls ≠ "java/lang/invoke/MethodHandle" ∧ yX1_fillBoard.cls ≠ "java/lang/invoke/VarHandle" ∧ (parseMethodDescriptor yX1_fillBoard.desc).map (fun d => d.parameters.length) = some 1 := by decide +kernel
-- RodBoard$Clerk.fillGaps()I
theorem uX1_fillGaps_X1 : ∀ w ∈ wsX10, w ∈ wsX1_fillGaps := fun _ h => List.mem_cons_of_mem _ (List.mem_append_left _ (List.mem_append_right _ h))
theorem mX1_fillGaps_1 : Cond.fieldLink RX1 12 "RodBoard$Clerk" "course" "LRodBoard$Course;" ∈ wsX1_fillGaps := List.mem_of_getElem? (i := 1) rfl
def fX1_fillGaps_L4b (s_course_boards : Int32) (s_course_notes : Nat → Int32) (x1 : Int32) (x2 : Int32) (s_course_cells : Nat → Int64) : Option (((Int32) × (Int32) × (Nat → Int64)) ⊕ ((Int32) × (Nat → Int64))) := Option.bind (fX3_size s_course_boards) (fun r_1 => if x2 < r_1 then Option.bind (fX1_gapsIn (x2 - (1 : Int32)) s_course_cells) (fun r_4 => if r_4 = (0 : Int32) then Option.bind (fX1_agrees x2 s_course_cells s_course_notes) (fun r_7 => if r_7 = (0 : Int32) then some (Sum.inl (x1, x2 + (1 : Int32), s_course_cells)) else bn2 (fX1_fillBoard x2 s_course_cells s_course_notes) (fun r_10 w_11 => some (Sum.inl (x1 + r_10, x2 + (1 : Int32), w_11)))) else some (Sum.inl (x1, x2 + (1 : Int32), s_course_cells))) else some (Sum.inr (x1, s_course_cells)))
def fX1_fillGaps_L4 (s_course_boards : Int32) (s_course_notes : Nat → Int32) : ((Int32) × (Int32) × (Nat → Int64)) → Option (((Int32) × (Int32) × (Nat → Int64)) ⊕ ((Int32) × (Nat → Int64))) := fun e => fX1_fillGaps_L4b s_course_boards s_course_notes e.1 e.2.1 e.2.2
set_option maxHeartbeats 4000000 in
set_option maxRecDepth 100000 in
theorem bX1_fillGaps_L4 {Γ : KT} (C : CX Γ cX1_fillGaps 3 wsX1_fillGaps RX1 ({ frames := 5, cells := 0, slots := 0, locals := 124 } : Room)) (h0 : Nat) (a_s_course : Nat) (a_s_course_cells : Nat) (a_s_course_notes : Nat) (s_course_boards : Int32) (s_course_notes : Nat → Int32) (x1 : Int32) (x2 : Int32) (s_course_cells : Nat → Int64) (x : ((Int32) × (Int32) × (Nat → Int64)) ⊕ ((Int32) × (Nat → Int64))) (hm : fX1_fillGaps_L4b s_course_boards s_course_notes x1 x2 s_course_cells = some x) (hb : (∀ (x1' : Int32) (x2' : Int32) (s_course_cells' : Nat → Int64), x = Sum.inl (x1', x2', s_course_cells') → V Γ 3 0 0 4 [(0, .ref h0), (1, .int x1'), (2, .int x2')] [] [(h0, eO 1 [.ref a_s_course]), (a_s_course, eO 3 [.ref a_s_course_cells, .ref a_s_course_notes, .int s_course_boards]), (a_s_course_cells, eJ 392 s_course_cells'), (a_s_course_notes, eI 288 s_course_notes)])) (he0 : (∀ (x1' : Int32) (s_course_cells' : Nat → Int64), x = Sum.inr (x1', s_course_cells') → V Γ 3 0 0 47 [(1, .int x1')] [] [(h0, eO 1 [.ref a_s_course]), (a_s_course, eO 3 [.ref a_s_course_cells, .ref a_s_course_notes, .int s_course_boards]), (a_s_course_cells, eJ 392 s_course_cells'), (a_s_course_notes, eI 288 s_course_notes)])) : V Γ 3 0 0 4 [(0, .ref h0), (1, .int x1), (2, .int x2)] [] [(h0, eO 1 [.ref a_s_course]), (a_s_course, eO 3 [.ref a_s_course_cells, .ref a_s_course_notes, .int s_course_boards]), (a_s_course_cells, eJ 392 s_course_cells), (a_s_course_notes, eI 288 s_course_notes)] := by
  unfold fX1_fillGaps_L4b at hm
  refine V_iload_n C 2 dX1_fillGaps_4 rfl rfl ?_
  refine V_aload_n C 0 dX1_fillGaps_5 rfl rfl ?_
  refine V_get C uX1_fillGaps_X1 0 0 rfl rfl (by decide) mX1_fillGaps_1 rfl dX1_fillGaps_6 ?_
  obtain ⟨r_1, hc_2, hm⟩ := bnd hm
  refine V_callVI C (As := []) (wr := [(h0, eO 1 [.ref a_s_course])]) (ws2 := [(h0, eO 1 [.ref a_s_course]), (a_s_course, eO 3 [.ref a_s_course_cells, .ref a_s_course_notes, .int s_course_boards]), (a_s_course_cells, eJ 392 s_course_cells), (a_s_course_notes, eI 288 s_course_notes)]) (kX3_size a_s_course a_s_course_cells a_s_course_notes s_course_boards s_course_cells s_course_notes r_1 hc_2) gX1_fillGaps_X3_size rfl ⟨rfl, rfl⟩ hdX3_size ⟨Nat.le_of_ble_eq_true rfl, Nat.le_of_ble_eq_true rfl⟩ ⟨Nat.zero_le _, Nat.zero_le _⟩ 0 rfl rfl [1, 2, 3] [0] [0, 1, 2, 3] rfl rfl ⟨rfl, rfl, rfl⟩ (by decide) rfl rfl (Nat.le_of_ble_eq_true rfl) dX1_fillGaps_9 ?_
  refine V_icmp_ge C 47 dX1_fillGaps_12 (by decide) (fun c_3 => ?_) (fun c_3 => ?_)
  · have hm := ite_t c_3 hm
    refine V_aload_n C 0 dX1_fillGaps_15 rfl rfl ?_
    refine V_iload_n C 2 dX1_fillGaps_16 rfl rfl ?_
    refine V_iconst C (v := (1 : Int32)) dX1_fillGaps_17 (by decide) ?_
    refine V_isub C dX1_fillGaps_18 ?_
    obtain ⟨r_4, hc_5, hm⟩ := bnd hm
    refine V_callVI C (As := [.int (x2 - (1 : Int32))]) (wr := []) (ws2 := [(h0, eO 1 [.ref a_s_course]), (a_s_course, eO 3 [.ref a_s_course_cells, .ref a_s_course_notes, .int s_course_boards]), (a_s_course_cells, eJ 392 s_course_cells), (a_s_course_notes, eI 288 s_course_notes)]) (kX1_gapsIn h0 a_s_course a_s_course_cells a_s_course_notes s_course_boards s_course_cells s_course_notes (x2 - (1 : Int32)) r_4 hc_5) gX1_fillGaps_X1_gapsIn rfl ⟨rfl, rfl⟩ hdX1_gapsIn ⟨Nat.le_of_ble_eq_true rfl, Nat.le_of_ble_eq_true rfl⟩ ⟨Nat.zero_le _, Nat.zero_le _⟩ 0 rfl rfl [0, 1, 2, 3] [] [0, 1, 2, 3] rfl rfl ⟨rfl, rfl, rfl⟩ (by decide) rfl rfl (Nat.le_of_ble_eq_true rfl) dX1_fillGaps_19 ?_
    refine V_if_ne C 41 dX1_fillGaps_22 (by decide) (fun c_6 => ?_) (fun c_6 => ?_)
    · have hm := ite_t c_6 hm
      refine V_aload_n C 0 dX1_fillGaps_25 rfl rfl ?_
      refine V_iload_n C 2 dX1_fillGaps_26 rfl rfl ?_
      obtain ⟨r_7, hc_8, hm⟩ := bnd hm
      refine V_callVI C (As := [.int x2]) (wr := []) (ws2 := [(h0, eO 1 [.ref a_s_course]), (a_s_course, eO 3 [.ref a_s_course_cells, .ref a_s_course_notes, .int s_course_boards]), (a_s_course_cells, eJ 392 s_course_cells), (a_s_course_notes, eI 288 s_course_notes)]) (kX1_agrees h0 a_s_course a_s_course_cells a_s_course_notes s_course_boards s_course_cells s_course_notes x2 r_7 hc_8) gX1_fillGaps_X1_agrees rfl ⟨rfl, rfl⟩ hdX1_agrees ⟨Nat.le_of_ble_eq_true rfl, Nat.le_of_ble_eq_true rfl⟩ ⟨Nat.zero_le _, Nat.zero_le _⟩ 0 rfl rfl [0, 1, 2, 3] [] [0, 1, 2, 3] rfl rfl ⟨rfl, rfl, rfl⟩ (by decide) rfl rfl (Nat.le_of_ble_eq_true rfl) dX1_fillGaps_27 ?_
      refine V_if_eq C 41 dX1_fillGaps_30 (by decide) (fun c_9 => ?_) (fun c_9 => ?_)
      · have hm := ite_t c_9 hm
        refine V_iinc C 2 (v := x2 + (1 : Int32)) (lv' := [(2, .int (x2 + (1 : Int32))), (0, .ref h0), (1, .int x1)]) dX1_fillGaps_41 rfl rfl (by decide) rfl ?_
        refine V_goto C 4 dX1_fillGaps_44 (by decide) ?_
        refine V_lv [1, 2, 0] rfl ?_
        exact hb x1 (x2 + (1 : Int32)) s_course_cells (Option.some.inj hm).symm
      · have hm := ite_f c_9 hm
        refine V_iload_n C 1 dX1_fillGaps_33 rfl rfl ?_
        refine V_aload_n C 0 dX1_fillGaps_34 rfl rfl ?_
        refine V_iload_n C 2 dX1_fillGaps_35 rfl rfl ?_
        obtain ⟨r_10, w_11, hc_12, hm⟩ := bd2 hm
        refine V_callVI C (As := [.int x2]) (wr := []) (ws2 := [(h0, eO 1 [.ref a_s_course]), (a_s_course, eO 3 [.ref a_s_course_cells, .ref a_s_course_notes, .int s_course_boards]), (a_s_course_cells, eJ 392 w_11), (a_s_course_notes, eI 288 s_course_notes)]) (kX1_fillBoard h0 a_s_course a_s_course_cells a_s_course_notes s_course_boards s_course_cells s_course_notes x2 r_10 w_11 hc_12) gX1_fillGaps_X1_fillBoard rfl ⟨rfl, rfl⟩ hdX1_fillBoard ⟨Nat.le_of_ble_eq_true rfl, Nat.le_of_ble_eq_true rfl⟩ ⟨Nat.zero_le _, Nat.zero_le _⟩ 0 rfl rfl [0, 1, 2, 3] [] [0, 1, 2, 3] rfl rfl ⟨rfl, rfl, rfl⟩ (by decide) rfl rfl (Nat.le_of_ble_eq_true rfl) dX1_fillGaps_36 ?_
        refine V_iadd C dX1_fillGaps_39 ?_
        refine V_istore_n C (lv' := [(1, .int (x1 + r_10)), (0, .ref h0), (2, .int x2)]) dX1_fillGaps_40 rfl (by decide) rfl ?_
        refine V_iinc C 2 (v := x2 + (1 : Int32)) (lv' := [(2, .int (x2 + (1 : Int32))), (1, .int (x1 + r_10)), (0, .ref h0)]) dX1_fillGaps_41 rfl rfl (by decide) rfl ?_
        refine V_goto C 4 dX1_fillGaps_44 (by decide) ?_
        refine V_lv [2, 1, 0] rfl ?_
        exact hb (x1 + r_10) (x2 + (1 : Int32)) w_11 (Option.some.inj hm).symm
    · have hm := ite_f c_6 hm
      refine V_iinc C 2 (v := x2 + (1 : Int32)) (lv' := [(2, .int (x2 + (1 : Int32))), (0, .ref h0), (1, .int x1)]) dX1_fillGaps_41 rfl rfl (by decide) rfl ?_
      refine V_goto C 4 dX1_fillGaps_44 (by decide) ?_
      refine V_lv [1, 2, 0] rfl ?_
      exact hb x1 (x2 + (1 : Int32)) s_course_cells (Option.some.inj hm).symm
  · have hm := ite_f c_3 hm
    refine V_lv [1] rfl ?_
    exact he0 x1 s_course_cells (Option.some.inj hm).symm
theorem lX1_fillGaps_L4 {Γ : KT} (C : CX Γ cX1_fillGaps 3 wsX1_fillGaps RX1 ({ frames := 5, cells := 0, slots := 0, locals := 124 } : Room)) (h0 : Nat) (a_s_course : Nat) (a_s_course_cells : Nat) (a_s_course_notes : Nat) (s_course_boards : Int32) (s_course_notes : Nat → Int32) (x1 : Int32) (x2 : Int32) (s_course_cells : Nat → Int64) (N : Nat) (e : (Int32) × (Nat → Int64)) (hN : itr (fX1_fillGaps_L4 s_course_boards s_course_notes) N (x1, x2, s_course_cells) = some e) (he0 : (∀ (x1' : Int32) (s_course_cells' : Nat → Int64), e = (x1', s_course_cells') → V Γ 3 0 0 47 [(1, .int x1')] [] [(h0, eO 1 [.ref a_s_course]), (a_s_course, eO 3 [.ref a_s_course_cells, .ref a_s_course_notes, .int s_course_boards]), (a_s_course_cells, eJ 392 s_course_cells'), (a_s_course_notes, eI 288 s_course_notes)])) : V Γ 3 0 0 4 [(0, .ref h0), (1, .int x1), (2, .int x2)] [] [(h0, eO 1 [.ref a_s_course]), (a_s_course, eO 3 [.ref a_s_course_cells, .ref a_s_course_notes, .int s_course_boards]), (a_s_course_cells, eJ 392 s_course_cells), (a_s_course_notes, eI 288 s_course_notes)] := by
  induction N generalizing x1 x2 s_course_cells with
  | zero => exact absurd hN (fun h => itr_0 h)
  | succ N ih =>
    obtain ⟨x, hx, hN⟩ := itr_s hN
    refine bX1_fillGaps_L4 C h0 a_s_course a_s_course_cells a_s_course_notes s_course_boards s_course_notes x1 x2 s_course_cells x hx (fun x1' x2' s_course_cells' h => ih x1' x2' s_course_cells' (by subst h; exact hN)) (fun y0 y1 h => he0 y0 y1 (by subst h; exact (Option.some.inj hN).symm))
def fX1_fillGaps (s_course_boards : Int32) (s_course_cells : Nat → Int64) (s_course_notes : Nat → Int32) : Option ((Int32) × (Nat → Int64)) := bn2 (itr (fX1_fillGaps_L4 s_course_boards s_course_notes) KF ((0 : Int32), (1 : Int32), s_course_cells)) (fun x1_15 u_16 => some (x1_15, u_16))
set_option maxHeartbeats 4000000 in
set_option maxRecDepth 100000 in
theorem kX1_fillGaps {l : Launch} (h0 : Nat) (a_s_course : Nat) (a_s_course_cells : Nat) (a_s_course_notes : Nat) (s_course_boards : Int32) (s_course_cells : Nat → Int64) (s_course_notes : Nat → Int32) (r : Int32) (o_s_course_cells : Nat → Int64) (hm : fX1_fillGaps s_course_boards s_course_cells s_course_notes = some (r, o_s_course_cells)) : CtI l yX1_fillGaps wsX1_fillGaps ({ frames := 5, cells := 0, slots := 0, locals := 124 } : Room) [.ref h0] [(h0, eO 1 [.ref a_s_course]), (a_s_course, eO 3 [.ref a_s_course_cells, .ref a_s_course_notes, .int s_course_boards]), (a_s_course_cells, eJ 392 s_course_cells), (a_s_course_notes, eI 288 s_course_notes)] r [(h0, eO 1 [.ref a_s_course]), (a_s_course, eO 3 [.ref a_s_course_cells, .ref a_s_course_notes, .int s_course_boards]), (a_s_course_cells, eJ 392 o_s_course_cells), (a_s_course_notes, eI 288 s_course_notes)] := by
  refine CtI_of (cc := cX1_fillGaps) (maxL := 3) (ty := .int) (own := RX1) rfl (by decide) rfl (lv0 := [(0, .ref h0)]) rfl (Nat.le_of_ble_eq_true rfl) (fun Γ hL C hR => ?_)
  subst hL
  unfold fX1_fillGaps at hm
  refine V_iconst C (v := (0 : Int32)) dX1_fillGaps_0 (by decide) ?_
  refine V_istore_n C (lv' := [(1, .int (0 : Int32)), (0, .ref h0)]) dX1_fillGaps_1 rfl (by decide) rfl ?_
  refine V_iconst C (v := (1 : Int32)) dX1_fillGaps_2 (by decide) ?_
  refine V_istore_n C (lv' := [(2, .int (1 : Int32)), (1, .int (0 : Int32)), (0, .ref h0)]) dX1_fillGaps_3 rfl (by decide) rfl ?_
  obtain ⟨x1_15, u_16, hE_14, hm⟩ := bd2 hm
  refine V_lv [2, 1, 0] rfl ?_
  refine lX1_fillGaps_L4 C h0 a_s_course a_s_course_cells a_s_course_notes s_course_boards s_course_notes (0 : Int32) (1 : Int32) s_course_cells KF _ hE_14 ?_
  intro q_17 q_18 hq
  cases hq
  refine V_iload_n C 0 dX1_fillGaps_47 rfl rfl ?_
  cases hm
  exact hR _ _ rfl dX1_fillGaps_48
theorem hdX1_fillGaps : yX1_fillGaps.cls = RX1 ∧ yX1_fillGaps.cls ≠ "java/lang/invoke/MethodHandle" ∧ yX1_fillGaps.cls ≠ "java/lang/invoke/VarHandle" ∧ (parseMethodDescriptor yX1_fillGaps.desc).map (fun d => d.parameters.length) = some 0 := by decide +kernel
