-- RodBoard$Counts.size()I
theorem uX2_size_X2 : ∀ w ∈ wsX20, w ∈ wsX2_size := fun _ h => List.mem_cons_of_mem _ (List.mem_append_right _ h)
theorem mX2_size_1 : Cond.fieldLink RX2 18 "RodBoard$Counts" "size" "I" ∈ wsX2_size := List.mem_of_getElem? (i := 1) rfl
def fX2_size (s_size : Int32) : Option ((Int32)) := some s_size
set_option maxHeartbeats 4000000 in
set_option maxRecDepth 100000 in
theorem kX2_size {l : Launch} (h0 : Nat) (a_s_bys : Nat) (a_s_lefts : Nat) (s_size : Int32) (s_bys : Nat → Int32) (s_lefts : Nat → Int32) (r : Int32) (hm : fX2_size s_size = some r) : CtI l yX2_size wsX2_size ({ frames := 0, cells := 0, slots := 0, locals := 0 } : Room) [.ref h0] [(h0, eO 2 [.ref a_s_bys, .ref a_s_lefts, .int s_size]), (a_s_bys, eI 6 s_bys), (a_s_lefts, eI 6 s_lefts)] r [(h0, eO 2 [.ref a_s_bys, .ref a_s_lefts, .int s_size]), (a_s_bys, eI 6 s_bys), (a_s_lefts, eI 6 s_lefts)] := by
  refine CtI_of (cc := cX2_size) (maxL := 1) (ty := .int) (own := RX2) rfl (by decide) rfl (lv0 := [(0, .ref h0)]) rfl (Nat.le_of_ble_eq_true rfl) (fun Γ hL C hR => ?_)
  subst hL
  unfold fX2_size at hm
  refine V_aload_n C 0 dX2_size_0 rfl rfl ?_
  refine V_get C uX2_size_X2 0 2 rfl rfl (by decide) mX2_size_1 rfl dX2_size_1 ?_
  cases hm
  exact hR _ _ rfl dX2_size_4
theorem hdX2_size : yX2_size.cls = RX2 ∧ yX2_size.cls ≠ "java/lang/invoke/MethodHandle" ∧ yX2_size.cls ≠ "java/lang/invoke/VarHandle" ∧ (parseMethodDescriptor yX2_size.desc).map (fun d => d.parameters.length) = some 0 := by decide +kernel
-- RodBoard$Counts.clear()V
theorem uX2_clear_X2 : ∀ w ∈ wsX20, w ∈ wsX2_clear := fun _ h => List.mem_cons_of_mem _ (List.mem_append_right _ h)
theorem mX2_clear_1 : Cond.fieldLink RX2 18 "RodBoard$Counts" "size" "I" ∈ wsX2_clear := List.mem_of_getElem? (i := 1) rfl
def fX2_clear (s_size : Int32) : Option ((Int32)) := some (0 : Int32)
set_option maxHeartbeats 4000000 in
set_option maxRecDepth 100000 in
theorem kX2_clear {l : Launch} (h0 : Nat) (a_s_bys : Nat) (a_s_lefts : Nat) (s_size : Int32) (s_bys : Nat → Int32) (s_lefts : Nat → Int32) (o_s_size : Int32) (hm : fX2_clear s_size = some o_s_size) : CtV l yX2_clear wsX2_clear ({ frames := 0, cells := 0, slots := 0, locals := 0 } : Room) [.ref h0] [(h0, eO 2 [.ref a_s_bys, .ref a_s_lefts, .int s_size]), (a_s_bys, eI 6 s_bys), (a_s_lefts, eI 6 s_lefts)] [(h0, eO 2 [.ref a_s_bys, .ref a_s_lefts, .int o_s_size]), (a_s_bys, eI 6 s_bys), (a_s_lefts, eI 6 s_lefts)] := by
  refine CtV_of (cc := cX2_clear) (maxL := 1) (own := RX2) rfl (by decide) rfl (lv0 := [(0, .ref h0)]) rfl (Nat.le_of_ble_eq_true rfl) (fun Γ hL C hR => ?_)
  subst hL
  unfold fX2_clear at hm
  refine V_aload_n C 0 dX2_clear_0 rfl rfl ?_
  refine V_iconst C (v := (0 : Int32)) dX2_clear_1 (by decide) ?_
  refine V_put C (ty := .int) uX2_clear_X2 tyX2 tyX2_ok nmX2 0 2 rfl rfl (by decide) mX2_clear_1 rfl (by decide +kernel) rfl rfl (Nat.le_of_ble_eq_true rfl) dX2_clear_2 (ws' := [(h0, eO 2 [.ref a_s_bys, .ref a_s_lefts, .int (0 : Int32)]), (a_s_bys, eI 6 s_bys), (a_s_lefts, eI 6 s_lefts)]) rfl ?_
  cases hm
  exact hR _ _ dX2_clear_5
theorem hdX2_clear : yX2_clear.cls = RX2 ∧ yX2_clear.cls ≠ "java/lang/invoke/MethodHandle" ∧ yX2_clear.cls ≠ "java/lang/invoke/VarHandle" ∧ (parseMethodDescriptor yX2_clear.desc).map (fun d => d.parameters.length) = some 0 := by decide +kernel
-- RodBoard$Counts.isFull()Z
theorem uX2_isFull_X2 : ∀ w ∈ wsX20, w ∈ wsX2_isFull := fun _ h => List.mem_cons_of_mem _ (List.mem_append_right _ h)
theorem mX2_isFull_1 : Cond.fieldLink RX2 18 "RodBoard$Counts" "size" "I" ∈ wsX2_isFull := List.mem_of_getElem? (i := 1) rfl
def fX2_isFull (s_size : Int32) : Option ((Int32)) := if s_size < (6 : Int32) then some (0 : Int32) else some (1 : Int32)
set_option maxHeartbeats 4000000 in
set_option maxRecDepth 100000 in
theorem kX2_isFull {l : Launch} (h0 : Nat) (a_s_bys : Nat) (a_s_lefts : Nat) (s_size : Int32) (s_bys : Nat → Int32) (s_lefts : Nat → Int32) (r : Int32) (hm : fX2_isFull s_size = some r) : CtI l yX2_isFull wsX2_isFull ({ frames := 0, cells := 0, slots := 0, locals := 0 } : Room) [.ref h0] [(h0, eO 2 [.ref a_s_bys, .ref a_s_lefts, .int s_size]), (a_s_bys, eI 6 s_bys), (a_s_lefts, eI 6 s_lefts)] r [(h0, eO 2 [.ref a_s_bys, .ref a_s_lefts, .int s_size]), (a_s_bys, eI 6 s_bys), (a_s_lefts, eI 6 s_lefts)] := by
  refine CtI_of (cc := cX2_isFull) (maxL := 1) (ty := .boolean) (own := RX2) rfl (by decide) rfl (lv0 := [(0, .ref h0)]) rfl (Nat.le_of_ble_eq_true rfl) (fun Γ hL C hR => ?_)
  subst hL
  unfold fX2_isFull at hm
  refine V_aload_n C 0 dX2_isFull_0 rfl rfl ?_
  refine V_get C uX2_isFull_X2 0 2 rfl rfl (by decide) mX2_isFull_1 rfl dX2_isFull_1 ?_
  refine V_bipush C (v := (6 : Int32)) dX2_isFull_4 (by decide) ?_
  refine V_icmp_lt C 13 dX2_isFull_6 (by decide) (fun c_1 => ?_) (fun c_1 => ?_)
  · have hm := ite_t c_1 hm
    refine V_iconst C (v := (0 : Int32)) dX2_isFull_13 (by decide) ?_
    cases hm
    exact hR _ _ rfl dX2_isFull_14
  · have hm := ite_f c_1 hm
    refine V_iconst C (v := (1 : Int32)) dX2_isFull_9 (by decide) ?_
    refine V_goto C 14 dX2_isFull_10 (by decide) ?_
    cases hm
    exact hR _ _ rfl dX2_isFull_14
theorem hdX2_isFull : yX2_isFull.cls = RX2 ∧ yX2_isFull.cls ≠ "java/lang/invoke/MethodHandle" ∧ yX2_isFull.cls ≠ "java/lang/invoke/VarHandle" ∧ (parseMethodDescriptor yX2_isFull.desc).map (fun d => d.parameters.length) = some 0 := by decide +kernel
-- RodBoard$Counts.append(II)V
theorem uX2_append_X2 : ∀ w ∈ wsX20, w ∈ wsX2_append := fun _ h => List.mem_cons_of_mem _ (List.mem_append_right _ h)
theorem mX2_append_1 : Cond.fieldLink RX2 18 "RodBoard$Counts" "size" "I" ∈ wsX2_append := List.mem_of_getElem? (i := 1) rfl
theorem mX2_append_2 : Cond.fieldLink RX2 11 "RodBoard$Counts" "bys" "[I" ∈ wsX2_append := List.mem_of_getElem? (i := 2) rfl
theorem mX2_append_3 : Cond.fieldLink RX2 15 "RodBoard$Counts" "lefts" "[I" ∈ wsX2_append := List.mem_of_getElem? (i := 3) rfl
def fX2_append (p0 : Int32) (p1 : Int32) (s_size : Int32) (s_bys : Nat → Int32) (s_lefts : Nat → Int32) : Option ((Int32) × (Nat → Int32) × (Nat → Int32)) := if s_size < (0 : Int32) then some (s_size, s_bys, s_lefts) else if s_size < (6 : Int32) then if s_size < (6 : Int32) then Option.bind (wrI s_bys 6 s_size p0) (fun g_4 => Option.bind (wrI s_lefts 6 s_size p1) (fun g_5 => some (s_size + (1 : Int32), g_4, g_5))) else some (s_size, s_bys, s_lefts) else some (s_size, s_bys, s_lefts)
set_option maxHeartbeats 4000000 in
set_option maxRecDepth 100000 in
theorem kX2_append {l : Launch} (h0 : Nat) (a_s_bys : Nat) (a_s_lefts : Nat) (s_size : Int32) (s_bys : Nat → Int32) (s_lefts : Nat → Int32) (p0 : Int32) (p1 : Int32) (o_s_size : Int32) (o_s_bys : Nat → Int32) (o_s_lefts : Nat → Int32) (hm : fX2_append p0 p1 s_size s_bys s_lefts = some (o_s_size, o_s_bys, o_s_lefts)) : CtV l yX2_append wsX2_append ({ frames := 0, cells := 0, slots := 0, locals := 0 } : Room) [.ref h0, .int p0, .int p1] [(h0, eO 2 [.ref a_s_bys, .ref a_s_lefts, .int s_size]), (a_s_bys, eI 6 s_bys), (a_s_lefts, eI 6 s_lefts)] [(h0, eO 2 [.ref a_s_bys, .ref a_s_lefts, .int o_s_size]), (a_s_bys, eI 6 o_s_bys), (a_s_lefts, eI 6 o_s_lefts)] := by
  refine CtV_of (cc := cX2_append) (maxL := 3) (own := RX2) rfl (by decide) rfl (lv0 := [(0, .ref h0), (1, .int p0), (2, .int p1)]) rfl (Nat.le_of_ble_eq_true rfl) (fun Γ hL C hR => ?_)
  subst hL
  unfold fX2_append at hm
  refine V_aload_n C 0 dX2_append_0 rfl rfl ?_
  refine V_get C uX2_append_X2 0 2 rfl rfl (by decide) mX2_append_1 rfl dX2_append_1 ?_
  refine V_if_lt C 31 dX2_append_4 (by decide) (fun c_1 => ?_) (fun c_1 => ?_)
  · have hm := ite_t c_1 hm
    cases hm
    exact hR _ _ dX2_append_31
  · have hm := ite_f c_1 hm
    refine V_aload_n C 0 dX2_append_7 rfl rfl ?_
    refine V_get C uX2_append_X2 0 2 rfl rfl (by decide) mX2_append_1 rfl dX2_append_8 ?_
    refine V_aload_n C 0 dX2_append_11 rfl rfl ?_
    refine V_get C uX2_append_X2 0 0 rfl rfl (by decide) mX2_append_2 rfl dX2_append_12 ?_
    refine V_alen C (v := (6 : Int32)) 1 0 rfl rfl rfl rfl dX2_append_15 ?_
    refine V_icmp_ge C 31 dX2_append_16 (by decide) (fun c_2 => ?_) (fun c_2 => ?_)
    · have hm := ite_t c_2 hm
      refine V_aload_n C 0 dX2_append_19 rfl rfl ?_
      refine V_get C uX2_append_X2 0 2 rfl rfl (by decide) mX2_append_1 rfl dX2_append_20 ?_
      refine V_aload_n C 0 dX2_append_23 rfl rfl ?_
      refine V_get C uX2_append_X2 0 1 rfl rfl (by decide) mX2_append_3 rfl dX2_append_24 ?_
      refine V_alen C (v := (6 : Int32)) 2 0 rfl rfl rfl rfl dX2_append_27 ?_
      refine V_icmp_lt C 32 dX2_append_28 (by decide) (fun c_3 => ?_) (fun c_3 => ?_)
      · have hm := ite_t c_3 hm
        refine V_aload_n C 0 dX2_append_32 rfl rfl ?_
        refine V_get C uX2_append_X2 0 0 rfl rfl (by decide) mX2_append_2 rfl dX2_append_33 ?_
        refine V_aload_n C 0 dX2_append_36 rfl rfl ?_
        refine V_get C uX2_append_X2 0 2 rfl rfl (by decide) mX2_append_1 rfl dX2_append_37 ?_
        refine V_iload_n C 1 dX2_append_40 rfl rfl ?_
        obtain ⟨g_4, hg_4, hm⟩ := bnd hm
        refine V_iast C 1 rfl hg_4 dX2_append_41 (ws' := [(h0, eO 2 [.ref a_s_bys, .ref a_s_lefts, .int s_size]), (a_s_bys, eI 6 g_4), (a_s_lefts, eI 6 s_lefts)]) rfl ?_
        refine V_aload_n C 0 dX2_append_42 rfl rfl ?_
        refine V_get C uX2_append_X2 0 1 rfl rfl (by decide) mX2_append_3 rfl dX2_append_43 ?_
        refine V_aload_n C 0 dX2_append_46 rfl rfl ?_
        refine V_get C uX2_append_X2 0 2 rfl rfl (by decide) mX2_append_1 rfl dX2_append_47 ?_
        refine V_iload_n C 2 dX2_append_50 rfl rfl ?_
        obtain ⟨g_5, hg_5, hm⟩ := bnd hm
        refine V_iast C 2 rfl hg_5 dX2_append_51 (ws' := [(h0, eO 2 [.ref a_s_bys, .ref a_s_lefts, .int s_size]), (a_s_bys, eI 6 g_4), (a_s_lefts, eI 6 g_5)]) rfl ?_
        refine V_aload_n C 0 dX2_append_52 rfl rfl ?_
        refine V_dup C dX2_append_53 rfl ?_
        refine V_get C uX2_append_X2 0 2 rfl rfl (by decide) mX2_append_1 rfl dX2_append_54 ?_
        refine V_iconst C (v := (1 : Int32)) dX2_append_57 (by decide) ?_
        refine V_iadd C dX2_append_58 ?_
        refine V_put C (ty := .int) uX2_append_X2 tyX2 tyX2_ok nmX2 0 2 rfl rfl (by decide) mX2_append_1 rfl (by decide +kernel) rfl rfl (Nat.le_of_ble_eq_true rfl) dX2_append_59 (ws' := [(h0, eO 2 [.ref a_s_bys, .ref a_s_lefts, .int (s_size + (1 : Int32))]), (a_s_bys, eI 6 g_4), (a_s_lefts, eI 6 g_5)]) rfl ?_
        cases hm
        exact hR _ _ dX2_append_62
      · have hm := ite_f c_3 hm
        cases hm
        exact hR _ _ dX2_append_31
    · have hm := ite_f c_2 hm
      cases hm
      exact hR _ _ dX2_append_31
theorem hdX2_append : yX2_append.cls = RX2 ∧ yX2_append.cls ≠ "java/lang/invoke/MethodHandle" ∧ yX2_append.cls ≠ "java/lang/invoke/VarHandle" ∧ (parseMethodDescriptor yX2_append.desc).map (fun d => d.parameters.length) = some 2 := by decide +kernel
-- RodBoard$Counts.by(I)I
theorem uX2_by_X2 : ∀ w ∈ wsX20, w ∈ wsX2_by := fun _ h => List.mem_cons_of_mem _ (List.mem_append_right _ h)
theorem mX2_by_1 : Cond.fieldLink RX2 11 "RodBoard$Counts" "bys" "[I" ∈ wsX2_by := List.mem_of_getElem? (i := 1) rfl
def fX2_by (p0 : Int32) (s_bys : Nat → Int32) : Option ((Int32)) := if p0 < (0 : Int32) then some (1 : Int32) else if p0 < (6 : Int32) then Option.bind (rdI s_bys 6 p0) (fun v_3 => some v_3) else some (1 : Int32)
set_option maxHeartbeats 4000000 in
set_option maxRecDepth 100000 in
theorem kX2_by {l : Launch} (h0 : Nat) (a_s_bys : Nat) (a_s_lefts : Nat) (s_size : Int32) (s_bys : Nat → Int32) (s_lefts : Nat → Int32) (p0 : Int32) (r : Int32) (hm : fX2_by p0 s_bys = some r) : CtI l yX2_by wsX2_by ({ frames := 0, cells := 0, slots := 0, locals := 0 } : Room) [.ref h0, .int p0] [(h0, eO 2 [.ref a_s_bys, .ref a_s_lefts, .int s_size]), (a_s_bys, eI 6 s_bys), (a_s_lefts, eI 6 s_lefts)] r [(h0, eO 2 [.ref a_s_bys, .ref a_s_lefts, .int s_size]), (a_s_bys, eI 6 s_bys), (a_s_lefts, eI 6 s_lefts)] := by
  refine CtI_of (cc := cX2_by) (maxL := 2) (ty := .int) (own := RX2) rfl (by decide) rfl (lv0 := [(0, .ref h0), (1, .int p0)]) rfl (Nat.le_of_ble_eq_true rfl) (fun Γ hL C hR => ?_)
  subst hL
  unfold fX2_by at hm
  refine V_iload_n C 1 dX2_by_0 rfl rfl ?_
  refine V_if_lt C 22 dX2_by_1 (by decide) (fun c_1 => ?_) (fun c_1 => ?_)
  · have hm := ite_t c_1 hm
    refine V_iconst C (v := (1 : Int32)) dX2_by_22 (by decide) ?_
    cases hm
    exact hR _ _ rfl dX2_by_23
  · have hm := ite_f c_1 hm
    refine V_iload_n C 1 dX2_by_4 rfl rfl ?_
    refine V_aload_n C 0 dX2_by_5 rfl rfl ?_
    refine V_get C uX2_by_X2 0 0 rfl rfl (by decide) mX2_by_1 rfl dX2_by_6 ?_
    refine V_alen C (v := (6 : Int32)) 1 0 rfl rfl rfl rfl dX2_by_9 ?_
    refine V_icmp_ge C 22 dX2_by_10 (by decide) (fun c_2 => ?_) (fun c_2 => ?_)
    · have hm := ite_t c_2 hm
      refine V_aload_n C 0 dX2_by_13 rfl rfl ?_
      refine V_get C uX2_by_X2 0 0 rfl rfl (by decide) mX2_by_1 rfl dX2_by_14 ?_
      refine V_iload_n C 1 dX2_by_17 rfl rfl ?_
      obtain ⟨v_3, hv_3, hm⟩ := bnd hm
      refine V_iald C 1 rfl hv_3 dX2_by_18 ?_
      refine V_goto C 23 dX2_by_19 (by decide) ?_
      cases hm
      exact hR _ _ rfl dX2_by_23
    · have hm := ite_f c_2 hm
      refine V_iconst C (v := (1 : Int32)) dX2_by_22 (by decide) ?_
      cases hm
      exact hR _ _ rfl dX2_by_23
theorem hdX2_by : yX2_by.cls = RX2 ∧ yX2_by.cls ≠ "java/lang/invoke/MethodHandle" ∧ yX2_by.cls ≠ "java/lang/invoke/VarHandle" ∧ (parseMethodDescriptor yX2_by.desc).map (fun d => d.parameters.length) = some 1 := by decide +kernel
-- RodBoard$Counts.left(I)I
theorem uX2_left_X2 : ∀ w ∈ wsX20, w ∈ wsX2_left := fun _ h => List.mem_cons_of_mem _ (List.mem_append_right _ h)
theorem mX2_left_1 : Cond.fieldLink RX2 15 "RodBoard$Counts" "lefts" "[I" ∈ wsX2_left := List.mem_of_getElem? (i := 1) rfl
def fX2_left (p0 : Int32) (s_lefts : Nat → Int32) : Option ((Int32)) := if p0 < (0 : Int32) then some (0 : Int32) else if p0 < (6 : Int32) then Option.bind (rdI s_lefts 6 p0) (fun v_3 => some v_3) else some (0 : Int32)
set_option maxHeartbeats 4000000 in
set_option maxRecDepth 100000 in
theorem kX2_left {l : Launch} (h0 : Nat) (a_s_bys : Nat) (a_s_lefts : Nat) (s_size : Int32) (s_bys : Nat → Int32) (s_lefts : Nat → Int32) (p0 : Int32) (r : Int32) (hm : fX2_left p0 s_lefts = some r) : CtI l yX2_left wsX2_left ({ frames := 0, cells := 0, slots := 0, locals := 0 } : Room) [.ref h0, .int p0] [(h0, eO 2 [.ref a_s_bys, .ref a_s_lefts, .int s_size]), (a_s_bys, eI 6 s_bys), (a_s_lefts, eI 6 s_lefts)] r [(h0, eO 2 [.ref a_s_bys, .ref a_s_lefts, .int s_size]), (a_s_bys, eI 6 s_bys), (a_s_lefts, eI 6 s_lefts)] := by
  refine CtI_of (cc := cX2_left) (maxL := 2) (ty := .int) (own := RX2) rfl (by decide) rfl (lv0 := [(0, .ref h0), (1, .int p0)]) rfl (Nat.le_of_ble_eq_true rfl) (fun Γ hL C hR => ?_)
  subst hL
  unfold fX2_left at hm
  refine V_iload_n C 1 dX2_left_0 rfl rfl ?_
  refine V_if_lt C 22 dX2_left_1 (by decide) (fun c_1 => ?_) (fun c_1 => ?_)
  · have hm := ite_t c_1 hm
    refine V_iconst C (v := (0 : Int32)) dX2_left_22 (by decide) ?_
    cases hm
    exact hR _ _ rfl dX2_left_23
  · have hm := ite_f c_1 hm
    refine V_iload_n C 1 dX2_left_4 rfl rfl ?_
    refine V_aload_n C 0 dX2_left_5 rfl rfl ?_
    refine V_get C uX2_left_X2 0 1 rfl rfl (by decide) mX2_left_1 rfl dX2_left_6 ?_
    refine V_alen C (v := (6 : Int32)) 2 0 rfl rfl rfl rfl dX2_left_9 ?_
    refine V_icmp_ge C 22 dX2_left_10 (by decide) (fun c_2 => ?_) (fun c_2 => ?_)
    · have hm := ite_t c_2 hm
      refine V_aload_n C 0 dX2_left_13 rfl rfl ?_
      refine V_get C uX2_left_X2 0 1 rfl rfl (by decide) mX2_left_1 rfl dX2_left_14 ?_
      refine V_iload_n C 1 dX2_left_17 rfl rfl ?_
      obtain ⟨v_3, hv_3, hm⟩ := bnd hm
      refine V_iald C 2 rfl hv_3 dX2_left_18 ?_
      refine V_goto C 23 dX2_left_19 (by decide) ?_
      cases hm
      exact hR _ _ rfl dX2_left_23
    · have hm := ite_f c_2 hm
      refine V_iconst C (v := (0 : Int32)) dX2_left_22 (by decide) ?_
      cases hm
      exact hR _ _ rfl dX2_left_23
theorem hdX2_left : yX2_left.cls = RX2 ∧ yX2_left.cls ≠ "java/lang/invoke/MethodHandle" ∧ yX2_left.cls ≠ "java/lang/invoke/VarHandle" ∧ (parseMethodDescriptor yX2_left.desc).map (fun d => d.parameters.length) = some 1 := by decide +kernel
-- RodBoard$Counts.firstClash()I
theorem uX2_firstClash_X2 : ∀ w ∈ wsX20, w ∈ wsX2_firstClash := fun _ h => List.mem_cons_of_mem _ (List.mem_append_right _ h)
theorem mX2_firstClash_1 : Cond.fieldLink RX2 18 "RodBoard$Counts" "size" "I" ∈ wsX2_firstClash := List.mem_of_getElem? (i := 1) rfl
def fX2_firstClash_L12b (x1 : Int32) (s_bys : Nat → Int32) (s_lefts : Nat → Int32) (x2 : Int32) : Option (((Int32)) ⊕ ((Unit) ⊕ ((Int32)))) := if x2 < x1 then Option.bind (fX2_by x1 s_bys) (fun r_3 => Option.bind (fX2_by x2 s_bys) (fun r_5 => Option.bind (fX5_greatestPart r_3.toInt64 r_5.toInt64) (fun r_7 => if r_7 = (0 : Int64) then some (Sum.inl (x2 + (1 : Int32))) else Option.bind (fX2_left x1 s_lefts) (fun r_10 => Option.bind (fX2_left x2 s_lefts) (fun r_12 => Option.bind (rmJ ((r_10 - r_12).toInt64) r_7) (fun v_14 => if v_14 = (0 : Int64) then some (Sum.inl (x2 + (1 : Int32))) else some (Sum.inr (Sum.inr x1)))))))) else some (Sum.inr (Sum.inl ()))
def fX2_firstClash_L12 (x1 : Int32) (s_bys : Nat → Int32) (s_lefts : Nat → Int32) : ((Int32)) → Option (((Int32)) ⊕ ((Unit) ⊕ ((Int32)))) := fun e => fX2_firstClash_L12b x1 s_bys s_lefts e
set_option maxHeartbeats 4000000 in
set_option maxRecDepth 100000 in
theorem bX2_firstClash_L12 {Γ : KT} (C : CX Γ cX2_firstClash 5 wsX2_firstClash RX2 ({ frames := 2, cells := 0, slots := 0, locals := 43 } : Room)) (h0 : Nat) (a_s_bys : Nat) (a_s_lefts : Nat) (x1 : Int32) (s_size : Int32) (s_bys : Nat → Int32) (s_lefts : Nat → Int32) (x2 : Int32) (x : ((Int32)) ⊕ ((Unit) ⊕ ((Int32)))) (hm : fX2_firstClash_L12b x1 s_bys s_lefts x2 = some x) (hb : (∀ (x2' : Int32), x = Sum.inl x2' → V Γ 5 0 0 12 [(0, .ref h0), (1, .int x1), (2, .int x2')] [] [(h0, eO 2 [.ref a_s_bys, .ref a_s_lefts, .int s_size]), (a_s_bys, eI 6 s_bys), (a_s_lefts, eI 6 s_lefts)])) (he0 : (∀ (_ : Unit), x = Sum.inr (Sum.inl ()) → V Γ 5 0 0 66 [(0, .ref h0), (1, .int x1)] [] [(h0, eO 2 [.ref a_s_bys, .ref a_s_lefts, .int s_size]), (a_s_bys, eI 6 s_bys), (a_s_lefts, eI 6 s_lefts)])) (her : (∀ (r' : Int32), x = Sum.inr (Sum.inr r') → (∀ (pc : Nat) (lv : List (Nat × Value)), narrow .int (.int r') = .int r' → decode cX2_firstClash pc = .ok (.ireturn, 1) → V Γ 5 0 0 pc lv [.int r'] [(h0, eO 2 [.ref a_s_bys, .ref a_s_lefts, .int s_size]), (a_s_bys, eI 6 s_bys), (a_s_lefts, eI 6 s_lefts)]))) : V Γ 5 0 0 12 [(0, .ref h0), (1, .int x1), (2, .int x2)] [] [(h0, eO 2 [.ref a_s_bys, .ref a_s_lefts, .int s_size]), (a_s_bys, eI 6 s_bys), (a_s_lefts, eI 6 s_lefts)] := by
  unfold fX2_firstClash_L12b at hm
  refine V_iload_n C 2 dX2_firstClash_12 rfl rfl ?_
  refine V_iload_n C 1 dX2_firstClash_13 rfl rfl ?_
  refine V_icmp_ge C 66 dX2_firstClash_14 (by decide) (fun c_2 => ?_) (fun c_2 => ?_)
  · have hm := ite_t c_2 hm
    refine V_aload_n C 0 dX2_firstClash_17 rfl rfl ?_
    refine V_iload_n C 1 dX2_firstClash_18 rfl rfl ?_
    obtain ⟨r_3, hc_4, hm⟩ := bnd hm
    refine V_callVI C (As := [.int x1]) (wr := []) (ws2 := [(h0, eO 2 [.ref a_s_bys, .ref a_s_lefts, .int s_size]), (a_s_bys, eI 6 s_bys), (a_s_lefts, eI 6 s_lefts)]) (kX2_by h0 a_s_bys a_s_lefts s_size s_bys s_lefts x1 r_3 hc_4) gX2_firstClash_X2_by rfl ⟨rfl, rfl⟩ hdX2_by ⟨Nat.le_of_ble_eq_true rfl, Nat.le_of_ble_eq_true rfl⟩ ⟨Nat.zero_le _, Nat.zero_le _⟩ 0 rfl rfl [0, 1, 2] [] [0, 1, 2] rfl rfl ⟨rfl, rfl, rfl⟩ (by decide) rfl rfl (Nat.le_of_ble_eq_true rfl) dX2_firstClash_19 ?_
    refine V_i2l C dX2_firstClash_22 ?_
    refine V_aload_n C 0 dX2_firstClash_23 rfl rfl ?_
    refine V_iload_n C 2 dX2_firstClash_24 rfl rfl ?_
    obtain ⟨r_5, hc_6, hm⟩ := bnd hm
    refine V_callVI C (As := [.int x2]) (wr := []) (ws2 := [(h0, eO 2 [.ref a_s_bys, .ref a_s_lefts, .int s_size]), (a_s_bys, eI 6 s_bys), (a_s_lefts, eI 6 s_lefts)]) (kX2_by h0 a_s_bys a_s_lefts s_size s_bys s_lefts x2 r_5 hc_6) gX2_firstClash_X2_by rfl ⟨rfl, rfl⟩ hdX2_by ⟨Nat.le_of_ble_eq_true rfl, Nat.le_of_ble_eq_true rfl⟩ ⟨Nat.zero_le _, Nat.zero_le _⟩ 0 rfl rfl [0, 1, 2] [] [0, 1, 2] rfl rfl ⟨rfl, rfl, rfl⟩ (by decide) rfl rfl (Nat.le_of_ble_eq_true rfl) dX2_firstClash_25 ?_
    refine V_i2l C dX2_firstClash_28 ?_
    obtain ⟨r_7, hc_8, hm⟩ := bnd hm
    refine V_callSL C (As := [.long r_3.toInt64, .long r_5.toInt64]) (wr := [(h0, eO 2 [.ref a_s_bys, .ref a_s_lefts, .int s_size]), (a_s_bys, eI 6 s_bys), (a_s_lefts, eI 6 s_lefts)]) (ws2 := [(h0, eO 2 [.ref a_s_bys, .ref a_s_lefts, .int s_size]), (a_s_bys, eI 6 s_bys), (a_s_lefts, eI 6 s_lefts)]) (kX5_greatestPart r_3.toInt64 r_5.toInt64 r_7 hc_8) gX2_firstClash_X5_greatestPart rfl ⟨rfl, rfl⟩ hdX5_greatestPart ⟨Nat.le_of_ble_eq_true rfl, Nat.le_of_ble_eq_true rfl⟩ ⟨Nat.zero_le _, Nat.zero_le _⟩ [] [0, 1, 2] [0, 1, 2] rfl rfl ⟨rfl, rfl, rfl⟩ (by decide) rfl rfl (Nat.le_of_ble_eq_true rfl) dX2_firstClash_29 ?_
    refine V_lstore_n C (lv' := [(3, .long r_7), (0, .ref h0), (1, .int x1), (2, .int x2)]) dX2_firstClash_32 rfl (by decide) rfl ?_
    refine V_lload_n C 0 dX2_firstClash_33 rfl rfl ?_
    refine V_lconst C (v := (0 : Int64)) dX2_firstClash_34 (by decide) ?_
    refine V_lcmp_eq C 60 dX2_firstClash_35 dX2_firstClash_36 (by decide) (fun c_9 => ?_) (fun c_9 => ?_)
    · have hm := ite_t c_9 hm
      refine V_iinc C 3 (v := x2 + (1 : Int32)) (lv' := [(2, .int (x2 + (1 : Int32))), (3, .long r_7), (0, .ref h0), (1, .int x1)]) dX2_firstClash_60 rfl rfl (by decide) rfl ?_
      refine V_goto C 12 dX2_firstClash_63 (by decide) ?_
      refine V_lv [2, 3, 0] rfl ?_
      exact hb (x2 + (1 : Int32)) (Option.some.inj hm).symm
    · have hm := ite_f c_9 hm
      refine V_aload_n C 1 dX2_firstClash_39 rfl rfl ?_
      refine V_iload_n C 2 dX2_firstClash_40 rfl rfl ?_
      obtain ⟨r_10, hc_11, hm⟩ := bnd hm
      refine V_callVI C (As := [.int x1]) (wr := []) (ws2 := [(h0, eO 2 [.ref a_s_bys, .ref a_s_lefts, .int s_size]), (a_s_bys, eI 6 s_bys), (a_s_lefts, eI 6 s_lefts)]) (kX2_left h0 a_s_bys a_s_lefts s_size s_bys s_lefts x1 r_10 hc_11) gX2_firstClash_X2_left rfl ⟨rfl, rfl⟩ hdX2_left ⟨Nat.le_of_ble_eq_true rfl, Nat.le_of_ble_eq_true rfl⟩ ⟨Nat.zero_le _, Nat.zero_le _⟩ 0 rfl rfl [0, 1, 2] [] [0, 1, 2] rfl rfl ⟨rfl, rfl, rfl⟩ (by decide) rfl rfl (Nat.le_of_ble_eq_true rfl) dX2_firstClash_41 ?_
      refine V_aload_n C 1 dX2_firstClash_44 rfl rfl ?_
      refine V_iload_n C 3 dX2_firstClash_45 rfl rfl ?_
      obtain ⟨r_12, hc_13, hm⟩ := bnd hm
      refine V_callVI C (As := [.int x2]) (wr := []) (ws2 := [(h0, eO 2 [.ref a_s_bys, .ref a_s_lefts, .int s_size]), (a_s_bys, eI 6 s_bys), (a_s_lefts, eI 6 s_lefts)]) (kX2_left h0 a_s_bys a_s_lefts s_size s_bys s_lefts x2 r_12 hc_13) gX2_firstClash_X2_left rfl ⟨rfl, rfl⟩ hdX2_left ⟨Nat.le_of_ble_eq_true rfl, Nat.le_of_ble_eq_true rfl⟩ ⟨Nat.zero_le _, Nat.zero_le _⟩ 0 rfl rfl [0, 1, 2] [] [0, 1, 2] rfl rfl ⟨rfl, rfl, rfl⟩ (by decide) rfl rfl (Nat.le_of_ble_eq_true rfl) dX2_firstClash_46 ?_
      refine V_isub C dX2_firstClash_49 ?_
      refine V_i2l C dX2_firstClash_50 ?_
      refine V_lload_n C 0 dX2_firstClash_51 rfl rfl ?_
      obtain ⟨v_14, hv_14, hm⟩ := bnd hm
      refine V_lrem C hv_14 dX2_firstClash_52 ?_
      refine V_lconst C (v := (0 : Int64)) dX2_firstClash_53 (by decide) ?_
      refine V_lcmp_eq C 60 dX2_firstClash_54 dX2_firstClash_55 (by decide) (fun c_15 => ?_) (fun c_15 => ?_)
      · have hm := ite_t c_15 hm
        refine V_iinc C 3 (v := x2 + (1 : Int32)) (lv' := [(2, .int (x2 + (1 : Int32))), (3, .long r_7), (0, .ref h0), (1, .int x1)]) dX2_firstClash_60 rfl rfl (by decide) rfl ?_
        refine V_goto C 12 dX2_firstClash_63 (by decide) ?_
        refine V_lv [2, 3, 0] rfl ?_
        exact hb (x2 + (1 : Int32)) (Option.some.inj hm).symm
      · have hm := ite_f c_15 hm
        refine V_iload_n C 2 dX2_firstClash_58 rfl rfl ?_
        exact her x1 (Option.some.inj hm).symm _ _ rfl dX2_firstClash_59
  · have hm := ite_f c_2 hm
    refine V_lv [0, 1] rfl ?_
    exact he0 () (Option.some.inj hm).symm
theorem lX2_firstClash_L12 {Γ : KT} (C : CX Γ cX2_firstClash 5 wsX2_firstClash RX2 ({ frames := 2, cells := 0, slots := 0, locals := 43 } : Room)) (h0 : Nat) (a_s_bys : Nat) (a_s_lefts : Nat) (x1 : Int32) (s_size : Int32) (s_bys : Nat → Int32) (s_lefts : Nat → Int32) (x2 : Int32) (N : Nat) (e : (Unit) ⊕ ((Int32))) (hN : itr (fX2_firstClash_L12 x1 s_bys s_lefts) N x2 = some e) (he0 : (∀ (_ : Unit), e = Sum.inl () → V Γ 5 0 0 66 [(0, .ref h0), (1, .int x1)] [] [(h0, eO 2 [.ref a_s_bys, .ref a_s_lefts, .int s_size]), (a_s_bys, eI 6 s_bys), (a_s_lefts, eI 6 s_lefts)])) (her : (∀ (r' : Int32), e = Sum.inr r' → (∀ (pc : Nat) (lv : List (Nat × Value)), narrow .int (.int r') = .int r' → decode cX2_firstClash pc = .ok (.ireturn, 1) → V Γ 5 0 0 pc lv [.int r'] [(h0, eO 2 [.ref a_s_bys, .ref a_s_lefts, .int s_size]), (a_s_bys, eI 6 s_bys), (a_s_lefts, eI 6 s_lefts)]))) : V Γ 5 0 0 12 [(0, .ref h0), (1, .int x1), (2, .int x2)] [] [(h0, eO 2 [.ref a_s_bys, .ref a_s_lefts, .int s_size]), (a_s_bys, eI 6 s_bys), (a_s_lefts, eI 6 s_lefts)] := by
  induction N generalizing x2 with
  | zero => exact absurd hN (fun h => itr_0 h)
  | succ N ih =>
    obtain ⟨x, hx, hN⟩ := itr_s hN
    refine bX2_firstClash_L12 C h0 a_s_bys a_s_lefts x1 s_size s_bys s_lefts x2 x hx (fun x2' h => ih x2' (by subst h; exact hN)) (fun _ h => he0 () (by subst h; exact (Option.some.inj hN).symm)) (fun y0 h => her y0 (by subst h; exact (Option.some.inj hN).symm))
def fX2_firstClash_L2b (s_size : Int32) (s_bys : Nat → Int32) (s_lefts : Nat → Int32) (x1 : Int32) : Option (((Int32)) ⊕ ((Unit) ⊕ ((Int32)))) := if x1 < s_size then Option.bind (itr (fX2_firstClash_L12 x1 s_bys s_lefts) KF (0 : Int32)) (Sum.elim (fun (_ : Unit) => some (Sum.inl (x1 + (1 : Int32)))) (fun rr_18 => some (Sum.inr (Sum.inr rr_18)))) else some (Sum.inr (Sum.inl ()))
def fX2_firstClash_L2 (s_size : Int32) (s_bys : Nat → Int32) (s_lefts : Nat → Int32) : ((Int32)) → Option (((Int32)) ⊕ ((Unit) ⊕ ((Int32)))) := fun e => fX2_firstClash_L2b s_size s_bys s_lefts e
set_option maxHeartbeats 4000000 in
set_option maxRecDepth 100000 in
theorem bX2_firstClash_L2 {Γ : KT} (C : CX Γ cX2_firstClash 5 wsX2_firstClash RX2 ({ frames := 2, cells := 0, slots := 0, locals := 43 } : Room)) (h0 : Nat) (a_s_bys : Nat) (a_s_lefts : Nat) (s_size : Int32) (s_bys : Nat → Int32) (s_lefts : Nat → Int32) (x1 : Int32) (x : ((Int32)) ⊕ ((Unit) ⊕ ((Int32)))) (hm : fX2_firstClash_L2b s_size s_bys s_lefts x1 = some x) (hb : (∀ (x1' : Int32), x = Sum.inl x1' → V Γ 5 0 0 2 [(0, .ref h0), (1, .int x1')] [] [(h0, eO 2 [.ref a_s_bys, .ref a_s_lefts, .int s_size]), (a_s_bys, eI 6 s_bys), (a_s_lefts, eI 6 s_lefts)])) (he0 : (∀ (_ : Unit), x = Sum.inr (Sum.inl ()) → V Γ 5 0 0 72 [] [] [(h0, eO 2 [.ref a_s_bys, .ref a_s_lefts, .int s_size]), (a_s_bys, eI 6 s_bys), (a_s_lefts, eI 6 s_lefts)])) (her : (∀ (r' : Int32), x = Sum.inr (Sum.inr r') → (∀ (pc : Nat) (lv : List (Nat × Value)), narrow .int (.int r') = .int r' → decode cX2_firstClash pc = .ok (.ireturn, 1) → V Γ 5 0 0 pc lv [.int r'] [(h0, eO 2 [.ref a_s_bys, .ref a_s_lefts, .int s_size]), (a_s_bys, eI 6 s_bys), (a_s_lefts, eI 6 s_lefts)]))) : V Γ 5 0 0 2 [(0, .ref h0), (1, .int x1)] [] [(h0, eO 2 [.ref a_s_bys, .ref a_s_lefts, .int s_size]), (a_s_bys, eI 6 s_bys), (a_s_lefts, eI 6 s_lefts)] := by
  unfold fX2_firstClash_L2b at hm
  refine V_iload_n C 1 dX2_firstClash_2 rfl rfl ?_
  refine V_aload_n C 0 dX2_firstClash_3 rfl rfl ?_
  refine V_get C uX2_firstClash_X2 0 2 rfl rfl (by decide) mX2_firstClash_1 rfl dX2_firstClash_4 ?_
  refine V_icmp_ge C 72 dX2_firstClash_7 (by decide) (fun c_1 => ?_) (fun c_1 => ?_)
  · have hm := ite_t c_1 hm
    refine V_iconst C (v := (0 : Int32)) dX2_firstClash_10 (by decide) ?_
    refine V_istore_n C (lv' := [(2, .int (0 : Int32)), (0, .ref h0), (1, .int x1)]) dX2_firstClash_11 rfl (by decide) rfl ?_
    obtain ⟨e_16, hE_17, hm⟩ := bnd hm
    refine V_lv [1, 2, 0] rfl ?_
    refine lX2_firstClash_L12 C h0 a_s_bys a_s_lefts x1 s_size s_bys s_lefts (0 : Int32) KF _ hE_17 ?_ ?_
    · intro _ hq
      subst hq
      -- exit
      dsimp only [Sum.elim_inl, Sum.elim_inr, un2, un3, un4, un5, un6, un7, un8, un9, un10, un11] at hm
      refine V_iinc C 1 (v := x1 + (1 : Int32)) (lv' := [(1, .int (x1 + (1 : Int32))), (0, .ref h0)]) dX2_firstClash_66 rfl rfl (by decide) rfl ?_
      refine V_goto C 2 dX2_firstClash_69 (by decide) ?_
      refine V_lv [1, 0] rfl ?_
      exact hb (x1 + (1 : Int32)) (Option.some.inj hm).symm
    · intro rr_18 hq
      subst hq
      dsimp only [Sum.elim_inl, Sum.elim_inr, un2, un3, un4, un5, un6, un7, un8, un9, un10, un11] at hm
      exact her rr_18 (Option.some.inj hm).symm
  · have hm := ite_f c_1 hm
    refine V_lv [] rfl ?_
    exact he0 () (Option.some.inj hm).symm
theorem lX2_firstClash_L2 {Γ : KT} (C : CX Γ cX2_firstClash 5 wsX2_firstClash RX2 ({ frames := 2, cells := 0, slots := 0, locals := 43 } : Room)) (h0 : Nat) (a_s_bys : Nat) (a_s_lefts : Nat) (s_size : Int32) (s_bys : Nat → Int32) (s_lefts : Nat → Int32) (x1 : Int32) (N : Nat) (e : (Unit) ⊕ ((Int32))) (hN : itr (fX2_firstClash_L2 s_size s_bys s_lefts) N x1 = some e) (he0 : (∀ (_ : Unit), e = Sum.inl () → V Γ 5 0 0 72 [] [] [(h0, eO 2 [.ref a_s_bys, .ref a_s_lefts, .int s_size]), (a_s_bys, eI 6 s_bys), (a_s_lefts, eI 6 s_lefts)])) (her : (∀ (r' : Int32), e = Sum.inr r' → (∀ (pc : Nat) (lv : List (Nat × Value)), narrow .int (.int r') = .int r' → decode cX2_firstClash pc = .ok (.ireturn, 1) → V Γ 5 0 0 pc lv [.int r'] [(h0, eO 2 [.ref a_s_bys, .ref a_s_lefts, .int s_size]), (a_s_bys, eI 6 s_bys), (a_s_lefts, eI 6 s_lefts)]))) : V Γ 5 0 0 2 [(0, .ref h0), (1, .int x1)] [] [(h0, eO 2 [.ref a_s_bys, .ref a_s_lefts, .int s_size]), (a_s_bys, eI 6 s_bys), (a_s_lefts, eI 6 s_lefts)] := by
  induction N generalizing x1 with
  | zero => exact absurd hN (fun h => itr_0 h)
  | succ N ih =>
    obtain ⟨x, hx, hN⟩ := itr_s hN
    refine bX2_firstClash_L2 C h0 a_s_bys a_s_lefts s_size s_bys s_lefts x1 x hx (fun x1' h => ih x1' (by subst h; exact hN)) (fun _ h => he0 () (by subst h; exact (Option.some.inj hN).symm)) (fun y0 h => her y0 (by subst h; exact (Option.some.inj hN).symm))
def fX2_firstClash (s_size : Int32) (s_bys : Nat → Int32) (s_lefts : Nat → Int32) : Option ((Int32)) := Option.bind (itr (fX2_firstClash_L2 s_size s_bys s_lefts) KF (0 : Int32)) (Sum.elim (fun (_ : Unit) => some (-6 : Int32)) (fun rr_21 => some rr_21))
set_option maxHeartbeats 4000000 in
set_option maxRecDepth 100000 in
theorem kX2_firstClash {l : Launch} (h0 : Nat) (a_s_bys : Nat) (a_s_lefts : Nat) (s_size : Int32) (s_bys : Nat → Int32) (s_lefts : Nat → Int32) (r : Int32) (hm : fX2_firstClash s_size s_bys s_lefts = some r) : CtI l yX2_firstClash wsX2_firstClash ({ frames := 2, cells := 0, slots := 0, locals := 43 } : Room) [.ref h0] [(h0, eO 2 [.ref a_s_bys, .ref a_s_lefts, .int s_size]), (a_s_bys, eI 6 s_bys), (a_s_lefts, eI 6 s_lefts)] r [(h0, eO 2 [.ref a_s_bys, .ref a_s_lefts, .int s_size]), (a_s_bys, eI 6 s_bys), (a_s_lefts, eI 6 s_lefts)] := by
  refine CtI_of (cc := cX2_firstClash) (maxL := 5) (ty := .int) (own := RX2) rfl (by decide) rfl (lv0 := [(0, .ref h0)]) rfl (Nat.le_of_ble_eq_true rfl) (fun Γ hL C hR => ?_)
  subst hL
  unfold fX2_firstClash at hm
  refine V_iconst C (v := (0 : Int32)) dX2_firstClash_0 (by decide) ?_
  refine V_istore_n C (lv' := [(1, .int (0 : Int32)), (0, .ref h0)]) dX2_firstClash_1 rfl (by decide) rfl ?_
  obtain ⟨e_19, hE_20, hm⟩ := bnd hm
  refine V_lv [1, 0] rfl ?_
  refine lX2_firstClash_L2 C h0 a_s_bys a_s_lefts s_size s_bys s_lefts (0 : Int32) KF _ hE_20 ?_ ?_
  · intro _ hq
    subst hq
    -- exit
    dsimp only [Sum.elim_inl, Sum.elim_inr, un2, un3, un4, un5, un6, un7, un8, un9, un10, un11] at hm
    refine V_bipush C (v := (-6 : Int32)) dX2_firstClash_72 (by decide) ?_
    cases hm
    exact hR _ _ rfl dX2_firstClash_74
  · intro rr_21 hq
    subst hq
    dsimp only [Sum.elim_inl, Sum.elim_inr, un2, un3, un4, un5, un6, un7, un8, un9, un10, un11] at hm
    cases hm
    exact hR
theorem hdX2_firstClash : yX2_firstClash.cls = RX2 ∧ yX2_firstClash.cls ≠ "java/lang/invoke/MethodHandle" ∧ yX2_firstClash.cls ≠ "java/lang/invoke/VarHandle" ∧ (parseMethodDescriptor yX2_firstClash.desc).map (fun d => d.parameters.length) = some 0 := by decide +kernel
-- RodBoard$Counts.bothGoInto(JJ)J
def fX2_bothGoInto (p0 : Int64) (p1 : Int64) : Option ((Int64)) := Option.bind (fX5_greatestPart p0 p1) (fun r_1 => if r_1 = (0 : Int64) then some (0 : Int64) else Option.bind (dvJ p0 r_1) (fun v_4 => some (v_4 * p1)))
set_option maxHeartbeats 4000000 in
set_option maxRecDepth 100000 in
theorem kX2_bothGoInto {l : Launch} (p0 : Int64) (p1 : Int64) (r : Int64) (hm : fX2_bothGoInto p0 p1 = some r) : CtL l yX2_bothGoInto wsX2_bothGoInto ({ frames := 2, cells := 0, slots := 0, locals := 43 } : Room) [.long p0, .long p1] [] r [] := by
  refine CtL_of (cc := cX2_bothGoInto) (maxL := 6) (own := RX2) rfl (by decide) rfl (lv0 := [(0, .long p0), (2, .long p1)]) rfl (Nat.le_of_ble_eq_true rfl) (fun Γ hL C hR => ?_)
  subst hL
  unfold fX2_bothGoInto at hm
  refine V_lload_n C 0 dX2_bothGoInto_0 rfl rfl ?_
  refine V_lload_n C 1 dX2_bothGoInto_1 rfl rfl ?_
  obtain ⟨r_1, hc_2, hm⟩ := bnd hm
  refine V_callSL C (As := [.long p0, .long p1]) (wr := []) (ws2 := []) (kX5_greatestPart p0 p1 r_1 hc_2) gX2_bothGoInto_X5_greatestPart rfl ⟨rfl, rfl⟩ hdX5_greatestPart ⟨Nat.le_of_ble_eq_true rfl, Nat.le_of_ble_eq_true rfl⟩ ⟨Nat.zero_le _, Nat.zero_le _⟩ [] [] [] rfl rfl ⟨rfl, rfl, rfl⟩ (by decide) rfl rfl (Nat.le_of_ble_eq_true rfl) dX2_bothGoInto_2 ?_
  refine V_lstore C (lv' := [(4, .long r_1), (0, .long p0), (2, .long p1)]) dX2_bothGoInto_5 (by decide) rfl ?_
  refine V_lload C 0 dX2_bothGoInto_7 rfl ?_
  refine V_lconst C (v := (0 : Int64)) dX2_bothGoInto_9 (by decide) ?_
  refine V_lcmp_ne C 18 dX2_bothGoInto_10 dX2_bothGoInto_11 (by decide) (fun c_3 => ?_) (fun c_3 => ?_)
  · have hm := ite_t c_3 hm
    refine V_lconst C (v := (0 : Int64)) dX2_bothGoInto_14 (by decide) ?_
    refine V_goto C 24 dX2_bothGoInto_15 (by decide) ?_
    cases hm
    exact hR _ _ dX2_bothGoInto_24
  · have hm := ite_f c_3 hm
    refine V_lload_n C 1 dX2_bothGoInto_18 rfl rfl ?_
    refine V_lload C 0 dX2_bothGoInto_19 rfl ?_
    obtain ⟨v_4, hv_4, hm⟩ := bnd hm
    refine V_ldiv C hv_4 dX2_bothGoInto_21 ?_
    refine V_lload_n C 2 dX2_bothGoInto_22 rfl rfl ?_
    refine V_lmul C dX2_bothGoInto_23 ?_
    cases hm
    exact hR _ _ dX2_bothGoInto_24
theorem hdX2_bothGoInto : yX2_bothGoInto.cls ≠ "java/lang/invoke/MethodHandle" ∧ yX2_bothGoInto.cls ≠ "java/lang/invoke/VarHandle" ∧ (parseMethodDescriptor yX2_bothGoInto.desc).map (fun d => d.parameters.length) = some 2 := by decide +kernel
-- RodBoard$Counts.allGoInto()J
theorem uX2_allGoInto_X2 : ∀ w ∈ wsX20, w ∈ wsX2_allGoInto := fun _ h => List.mem_cons_of_mem _ (List.mem_append_right _ h)
theorem mX2_allGoInto_1 : Cond.fieldLink RX2 18 "RodBoard$Counts" "size" "I" ∈ wsX2_allGoInto := List.mem_of_getElem? (i := 1) rfl
def fX2_allGoInto_L4b (s_size : Int32) (s_bys : Nat → Int32) (x1 : Int64) (x3 : Int32) : Option (((Int64) × (Int32)) ⊕ ((Int64))) := if x3 < s_size then Option.bind (fX2_by x3 s_bys) (fun r_2 => Option.bind (fX2_bothGoInto x1 r_2.toInt64) (fun r_4 => some (Sum.inl (r_4, x3 + (1 : Int32))))) else some (Sum.inr x1)
def fX2_allGoInto_L4 (s_size : Int32) (s_bys : Nat → Int32) : ((Int64) × (Int32)) → Option (((Int64) × (Int32)) ⊕ ((Int64))) := fun e => fX2_allGoInto_L4b s_size s_bys e.1 e.2
set_option maxHeartbeats 4000000 in
set_option maxRecDepth 100000 in
theorem bX2_allGoInto_L4 {Γ : KT} (C : CX Γ cX2_allGoInto 4 wsX2_allGoInto RX2 ({ frames := 3, cells := 0, slots := 0, locals := 68 } : Room)) (h0 : Nat) (a_s_bys : Nat) (a_s_lefts : Nat) (s_size : Int32) (s_bys : Nat → Int32) (s_lefts : Nat → Int32) (x1 : Int64) (x3 : Int32) (x : ((Int64) × (Int32)) ⊕ ((Int64))) (hm : fX2_allGoInto_L4b s_size s_bys x1 x3 = some x) (hb : (∀ (x1' : Int64) (x3' : Int32), x = Sum.inl (x1', x3') → V Γ 4 0 0 4 [(0, .ref h0), (1, .long x1'), (3, .int x3')] [] [(h0, eO 2 [.ref a_s_bys, .ref a_s_lefts, .int s_size]), (a_s_bys, eI 6 s_bys), (a_s_lefts, eI 6 s_lefts)])) (he0 : (∀ (x1' : Int64), x = Sum.inr x1' → V Γ 4 0 0 29 [(1, .long x1')] [] [(h0, eO 2 [.ref a_s_bys, .ref a_s_lefts, .int s_size]), (a_s_bys, eI 6 s_bys), (a_s_lefts, eI 6 s_lefts)])) : V Γ 4 0 0 4 [(0, .ref h0), (1, .long x1), (3, .int x3)] [] [(h0, eO 2 [.ref a_s_bys, .ref a_s_lefts, .int s_size]), (a_s_bys, eI 6 s_bys), (a_s_lefts, eI 6 s_lefts)] := by
  unfold fX2_allGoInto_L4b at hm
  refine V_iload_n C 2 dX2_allGoInto_4 rfl rfl ?_
  refine V_aload_n C 0 dX2_allGoInto_5 rfl rfl ?_
  refine V_get C uX2_allGoInto_X2 0 2 rfl rfl (by decide) mX2_allGoInto_1 rfl dX2_allGoInto_6 ?_
  refine V_icmp_ge C 29 dX2_allGoInto_9 (by decide) (fun c_1 => ?_) (fun c_1 => ?_)
  · have hm := ite_t c_1 hm
    refine V_lload_n C 1 dX2_allGoInto_12 rfl rfl ?_
    refine V_aload_n C 0 dX2_allGoInto_13 rfl rfl ?_
    refine V_iload_n C 2 dX2_allGoInto_14 rfl rfl ?_
    obtain ⟨r_2, hc_3, hm⟩ := bnd hm
    refine V_callVI C (As := [.int x3]) (wr := []) (ws2 := [(h0, eO 2 [.ref a_s_bys, .ref a_s_lefts, .int s_size]), (a_s_bys, eI 6 s_bys), (a_s_lefts, eI 6 s_lefts)]) (kX2_by h0 a_s_bys a_s_lefts s_size s_bys s_lefts x3 r_2 hc_3) gX2_allGoInto_X2_by rfl ⟨rfl, rfl⟩ hdX2_by ⟨Nat.le_of_ble_eq_true rfl, Nat.le_of_ble_eq_true rfl⟩ ⟨Nat.zero_le _, Nat.zero_le _⟩ 0 rfl rfl [0, 1, 2] [] [0, 1, 2] rfl rfl ⟨rfl, rfl, rfl⟩ (by decide) rfl rfl (Nat.le_of_ble_eq_true rfl) dX2_allGoInto_15 ?_
    refine V_i2l C dX2_allGoInto_18 ?_
    obtain ⟨r_4, hc_5, hm⟩ := bnd hm
    refine V_callSL C (As := [.long x1, .long r_2.toInt64]) (wr := [(h0, eO 2 [.ref a_s_bys, .ref a_s_lefts, .int s_size]), (a_s_bys, eI 6 s_bys), (a_s_lefts, eI 6 s_lefts)]) (ws2 := [(h0, eO 2 [.ref a_s_bys, .ref a_s_lefts, .int s_size]), (a_s_bys, eI 6 s_bys), (a_s_lefts, eI 6 s_lefts)]) (kX2_bothGoInto x1 r_2.toInt64 r_4 hc_5) gX2_allGoInto_X2_bothGoInto rfl ⟨rfl, rfl⟩ hdX2_bothGoInto ⟨Nat.le_of_ble_eq_true rfl, Nat.le_of_ble_eq_true rfl⟩ ⟨Nat.zero_le _, Nat.zero_le _⟩ [] [0, 1, 2] [0, 1, 2] rfl rfl ⟨rfl, rfl, rfl⟩ (by decide) rfl rfl (Nat.le_of_ble_eq_true rfl) dX2_allGoInto_19 ?_
    refine V_lstore_n C (lv' := [(1, .long r_4), (0, .ref h0), (3, .int x3)]) dX2_allGoInto_22 rfl (by decide) rfl ?_
    refine V_iinc C 2 (v := x3 + (1 : Int32)) (lv' := [(3, .int (x3 + (1 : Int32))), (1, .long r_4), (0, .ref h0)]) dX2_allGoInto_23 rfl rfl (by decide) rfl ?_
    refine V_goto C 4 dX2_allGoInto_26 (by decide) ?_
    refine V_lv [2, 1, 0] rfl ?_
    exact hb r_4 (x3 + (1 : Int32)) (Option.some.inj hm).symm
  · have hm := ite_f c_1 hm
    refine V_lv [1] rfl ?_
    exact he0 x1 (Option.some.inj hm).symm
theorem lX2_allGoInto_L4 {Γ : KT} (C : CX Γ cX2_allGoInto 4 wsX2_allGoInto RX2 ({ frames := 3, cells := 0, slots := 0, locals := 68 } : Room)) (h0 : Nat) (a_s_bys : Nat) (a_s_lefts : Nat) (s_size : Int32) (s_bys : Nat → Int32) (s_lefts : Nat → Int32) (x1 : Int64) (x3 : Int32) (N : Nat) (e : (Int64)) (hN : itr (fX2_allGoInto_L4 s_size s_bys) N (x1, x3) = some e) (he0 : (∀ (x1' : Int64), e = x1' → V Γ 4 0 0 29 [(1, .long x1')] [] [(h0, eO 2 [.ref a_s_bys, .ref a_s_lefts, .int s_size]), (a_s_bys, eI 6 s_bys), (a_s_lefts, eI 6 s_lefts)])) : V Γ 4 0 0 4 [(0, .ref h0), (1, .long x1), (3, .int x3)] [] [(h0, eO 2 [.ref a_s_bys, .ref a_s_lefts, .int s_size]), (a_s_bys, eI 6 s_bys), (a_s_lefts, eI 6 s_lefts)] := by
  induction N generalizing x1 x3 with
  | zero => exact absurd hN (fun h => itr_0 h)
  | succ N ih =>
    obtain ⟨x, hx, hN⟩ := itr_s hN
    refine bX2_allGoInto_L4 C h0 a_s_bys a_s_lefts s_size s_bys s_lefts x1 x3 x hx (fun x1' x3' h => ih x1' x3' (by subst h; exact hN)) (fun y0 h => he0 y0 (by subst h; exact (Option.some.inj hN).symm))
def fX2_allGoInto (s_size : Int32) (s_bys : Nat → Int32) : Option ((Int64)) := Option.bind (itr (fX2_allGoInto_L4 s_size s_bys) KF ((1 : Int64), (0 : Int32))) (fun x1_8 => some x1_8)
set_option maxHeartbeats 4000000 in
set_option maxRecDepth 100000 in
theorem kX2_allGoInto {l : Launch} (h0 : Nat) (a_s_bys : Nat) (a_s_lefts : Nat) (s_size : Int32) (s_bys : Nat → Int32) (s_lefts : Nat → Int32) (r : Int64) (hm : fX2_allGoInto s_size s_bys = some r) : CtL l yX2_allGoInto wsX2_allGoInto ({ frames := 3, cells := 0, slots := 0, locals := 68 } : Room) [.ref h0] [(h0, eO 2 [.ref a_s_bys, .ref a_s_lefts, .int s_size]), (a_s_bys, eI 6 s_bys), (a_s_lefts, eI 6 s_lefts)] r [(h0, eO 2 [.ref a_s_bys, .ref a_s_lefts, .int s_size]), (a_s_bys, eI 6 s_bys), (a_s_lefts, eI 6 s_lefts)] := by
  refine CtL_of (cc := cX2_allGoInto) (maxL := 4) (own := RX2) rfl (by decide) rfl (lv0 := [(0, .ref h0)]) rfl (Nat.le_of_ble_eq_true rfl) (fun Γ hL C hR => ?_)
  subst hL
  unfold fX2_allGoInto at hm
  refine V_lconst C (v := (1 : Int64)) dX2_allGoInto_0 (by decide) ?_
  refine V_lstore_n C (lv' := [(1, .long (1 : Int64)), (0, .ref h0)]) dX2_allGoInto_1 rfl (by decide) rfl ?_
  refine V_iconst C (v := (0 : Int32)) dX2_allGoInto_2 (by decide) ?_
  refine V_istore_n C (lv' := [(3, .int (0 : Int32)), (1, .long (1 : Int64)), (0, .ref h0)]) dX2_allGoInto_3 rfl (by decide) rfl ?_
  obtain ⟨x1_8, hE_7, hm⟩ := bnd hm
  refine V_lv [2, 1, 0] rfl ?_
  refine lX2_allGoInto_L4 C h0 a_s_bys a_s_lefts s_size s_bys s_lefts (1 : Int64) (0 : Int32) KF _ hE_7 ?_
  intro q_9 hq
  cases hq
  refine V_lload_n C 0 dX2_allGoInto_29 rfl rfl ?_
  cases hm
  exact hR _ _ dX2_allGoInto_30
theorem hdX2_allGoInto : yX2_allGoInto.cls = RX2 ∧ yX2_allGoInto.cls ≠ "java/lang/invoke/MethodHandle" ∧ yX2_allGoInto.cls ≠ "java/lang/invoke/VarHandle" ∧ (parseMethodDescriptor yX2_allGoInto.desc).map (fun d => d.parameters.length) = some 0 := by decide +kernel
-- RodBoard$Counts.leastLeavingAll()J
theorem uX2_leastLeavingAll_X2 : ∀ w ∈ wsX20, w ∈ wsX2_leastLeavingAll := fun _ h => List.mem_cons_of_mem _ (List.mem_append_right _ h)
theorem mX2_leastLeavingAll_1 : Cond.fieldLink RX2 18 "RodBoard$Counts" "size" "I" ∈ wsX2_leastLeavingAll := List.mem_of_getElem? (i := 1) rfl
def fX2_leastLeavingAll_L28b (x3 : Int64) (x5 : Int32) (x6 : Int64) (s_lefts : Nat → Int32) (x1 : Int64) (x8 : Int32) : Option (((Int64) × (Int32)) ⊕ (((Int64)) ⊕ ((Int64)))) := if x8 < (1000 : Int32) then if x6 = (0 : Int64) then some (Sum.inr (Sum.inl x1)) else Option.bind (rmJ x1 x6) (fun v_6 => Option.bind (fX2_left x5 s_lefts) (fun r_7 => if v_6 = r_7.toInt64 then some (Sum.inr (Sum.inr x1)) else some (Sum.inl (x1 + x3, x8 + (1 : Int32))))) else some (Sum.inr (Sum.inl x1))
def fX2_leastLeavingAll_L28 (x3 : Int64) (x5 : Int32) (x6 : Int64) (s_lefts : Nat → Int32) : ((Int64) × (Int32)) → Option (((Int64) × (Int32)) ⊕ (((Int64)) ⊕ ((Int64)))) := fun e => fX2_leastLeavingAll_L28b x3 x5 x6 s_lefts e.1 e.2
set_option maxHeartbeats 4000000 in
set_option maxRecDepth 100000 in
theorem bX2_leastLeavingAll_L28 {Γ : KT} (C : CX Γ cX2_leastLeavingAll 9 wsX2_leastLeavingAll RX2 ({ frames := 3, cells := 0, slots := 0, locals := 68 } : Room)) (h0 : Nat) (a_s_bys : Nat) (a_s_lefts : Nat) (x3 : Int64) (x5 : Int32) (x6 : Int64) (s_size : Int32) (s_bys : Nat → Int32) (s_lefts : Nat → Int32) (x1 : Int64) (x8 : Int32) (x : ((Int64) × (Int32)) ⊕ (((Int64)) ⊕ ((Int64)))) (hm : fX2_leastLeavingAll_L28b x3 x5 x6 s_lefts x1 x8 = some x) (hb : (∀ (x1' : Int64) (x8' : Int32), x = Sum.inl (x1', x8') → V Γ 9 0 0 28 [(0, .ref h0), (1, .long x1'), (3, .long x3), (5, .int x5), (6, .long x6), (8, .int x8')] [] [(h0, eO 2 [.ref a_s_bys, .ref a_s_lefts, .int s_size]), (a_s_bys, eI 6 s_bys), (a_s_lefts, eI 6 s_lefts)])) (he0 : (∀ (x1' : Int64), x = Sum.inr (Sum.inl x1') → V Γ 9 0 0 71 [(0, .ref h0), (1, .long x1'), (3, .long x3), (5, .int x5), (6, .long x6)] [] [(h0, eO 2 [.ref a_s_bys, .ref a_s_lefts, .int s_size]), (a_s_bys, eI 6 s_bys), (a_s_lefts, eI 6 s_lefts)])) (he1 : (∀ (x1' : Int64), x = Sum.inr (Sum.inr x1') → V Γ 9 0 0 58 [(0, .ref h0), (1, .long x1'), (3, .long x3), (5, .int x5), (6, .long x6)] [] [(h0, eO 2 [.ref a_s_bys, .ref a_s_lefts, .int s_size]), (a_s_bys, eI 6 s_bys), (a_s_lefts, eI 6 s_lefts)])) : V Γ 9 0 0 28 [(0, .ref h0), (1, .long x1), (3, .long x3), (5, .int x5), (6, .long x6), (8, .int x8)] [] [(h0, eO 2 [.ref a_s_bys, .ref a_s_lefts, .int s_size]), (a_s_bys, eI 6 s_bys), (a_s_lefts, eI 6 s_lefts)] := by
  unfold fX2_leastLeavingAll_L28b at hm
  refine V_iload C 5 dX2_leastLeavingAll_28 rfl ?_
  refine V_sipush C (v := (1000 : Int32)) dX2_leastLeavingAll_30 (by decide) ?_
  refine V_icmp_ge C 71 dX2_leastLeavingAll_33 (by decide) (fun c_4 => ?_) (fun c_4 => ?_)
  · have hm := ite_t c_4 hm
    refine V_lload C 4 dX2_leastLeavingAll_36 rfl ?_
    refine V_lconst C (v := (0 : Int64)) dX2_leastLeavingAll_38 (by decide) ?_
    refine V_lcmp_eq C 71 dX2_leastLeavingAll_39 dX2_leastLeavingAll_40 (by decide) (fun c_5 => ?_) (fun c_5 => ?_)
    · have hm := ite_t c_5 hm
      refine V_lv [0, 1, 2, 3, 4] rfl ?_
      exact he0 x1 (Option.some.inj hm).symm
    · have hm := ite_f c_5 hm
      refine V_lload_n C 1 dX2_leastLeavingAll_43 rfl rfl ?_
      refine V_lload C 4 dX2_leastLeavingAll_44 rfl ?_
      obtain ⟨v_6, hv_6, hm⟩ := bnd hm
      refine V_lrem C hv_6 dX2_leastLeavingAll_46 ?_
      refine V_aload_n C 0 dX2_leastLeavingAll_47 rfl rfl ?_
      refine V_iload C 3 dX2_leastLeavingAll_48 rfl ?_
      obtain ⟨r_7, hc_8, hm⟩ := bnd hm
      refine V_callVI C (As := [.int x5]) (wr := []) (ws2 := [(h0, eO 2 [.ref a_s_bys, .ref a_s_lefts, .int s_size]), (a_s_bys, eI 6 s_bys), (a_s_lefts, eI 6 s_lefts)]) (kX2_left h0 a_s_bys a_s_lefts s_size s_bys s_lefts x5 r_7 hc_8) gX2_leastLeavingAll_X2_left rfl ⟨rfl, rfl⟩ hdX2_left ⟨Nat.le_of_ble_eq_true rfl, Nat.le_of_ble_eq_true rfl⟩ ⟨Nat.zero_le _, Nat.zero_le _⟩ 0 rfl rfl [0, 1, 2] [] [0, 1, 2] rfl rfl ⟨rfl, rfl, rfl⟩ (by decide) rfl rfl (Nat.le_of_ble_eq_true rfl) dX2_leastLeavingAll_50 ?_
      refine V_i2l C dX2_leastLeavingAll_53 ?_
      refine V_lcmp_ne C 61 dX2_leastLeavingAll_54 dX2_leastLeavingAll_55 (by decide) (fun c_9 => ?_) (fun c_9 => ?_)
      · have hm := ite_t c_9 hm
        refine V_lv [0, 1, 2, 3, 4] rfl ?_
        exact he1 x1 (Option.some.inj hm).symm
      · have hm := ite_f c_9 hm
        refine V_lload_n C 1 dX2_leastLeavingAll_61 rfl rfl ?_
        refine V_lload_n C 2 dX2_leastLeavingAll_62 rfl rfl ?_
        refine V_ladd C dX2_leastLeavingAll_63 ?_
        refine V_lstore_n C (lv' := [(1, .long (x1 + x3)), (0, .ref h0), (3, .long x3), (5, .int x5), (6, .long x6), (8, .int x8)]) dX2_leastLeavingAll_64 rfl (by decide) rfl ?_
        refine V_iinc C 5 (v := x8 + (1 : Int32)) (lv' := [(8, .int (x8 + (1 : Int32))), (1, .long (x1 + x3)), (0, .ref h0), (3, .long x3), (5, .int x5), (6, .long x6)]) dX2_leastLeavingAll_65 rfl rfl (by decide) rfl ?_
        refine V_goto C 28 dX2_leastLeavingAll_68 (by decide) ?_
        refine V_lv [2, 1, 3, 4, 5, 0] rfl ?_
        exact hb (x1 + x3) (x8 + (1 : Int32)) (Option.some.inj hm).symm
  · have hm := ite_f c_4 hm
    refine V_lv [0, 1, 2, 3, 4] rfl ?_
    exact he0 x1 (Option.some.inj hm).symm
theorem lX2_leastLeavingAll_L28 {Γ : KT} (C : CX Γ cX2_leastLeavingAll 9 wsX2_leastLeavingAll RX2 ({ frames := 3, cells := 0, slots := 0, locals := 68 } : Room)) (h0 : Nat) (a_s_bys : Nat) (a_s_lefts : Nat) (x3 : Int64) (x5 : Int32) (x6 : Int64) (s_size : Int32) (s_bys : Nat → Int32) (s_lefts : Nat → Int32) (x1 : Int64) (x8 : Int32) (N : Nat) (e : ((Int64)) ⊕ ((Int64))) (hN : itr (fX2_leastLeavingAll_L28 x3 x5 x6 s_lefts) N (x1, x8) = some e) (he0 : (∀ (x1' : Int64), e = Sum.inl x1' → V Γ 9 0 0 71 [(0, .ref h0), (1, .long x1'), (3, .long x3), (5, .int x5), (6, .long x6)] [] [(h0, eO 2 [.ref a_s_bys, .ref a_s_lefts, .int s_size]), (a_s_bys, eI 6 s_bys), (a_s_lefts, eI 6 s_lefts)])) (he1 : (∀ (x1' : Int64), e = Sum.inr x1' → V Γ 9 0 0 58 [(0, .ref h0), (1, .long x1'), (3, .long x3), (5, .int x5), (6, .long x6)] [] [(h0, eO 2 [.ref a_s_bys, .ref a_s_lefts, .int s_size]), (a_s_bys, eI 6 s_bys), (a_s_lefts, eI 6 s_lefts)])) : V Γ 9 0 0 28 [(0, .ref h0), (1, .long x1), (3, .long x3), (5, .int x5), (6, .long x6), (8, .int x8)] [] [(h0, eO 2 [.ref a_s_bys, .ref a_s_lefts, .int s_size]), (a_s_bys, eI 6 s_bys), (a_s_lefts, eI 6 s_lefts)] := by
  induction N generalizing x1 x8 with
  | zero => exact absurd hN (fun h => itr_0 h)
  | succ N ih =>
    obtain ⟨x, hx, hN⟩ := itr_s hN
    refine bX2_leastLeavingAll_L28 C h0 a_s_bys a_s_lefts x3 x5 x6 s_size s_bys s_lefts x1 x8 x hx (fun x1' x8' h => ih x1' x8' (by subst h; exact hN)) (fun y0 h => he0 y0 (by subst h; exact (Option.some.inj hN).symm)) (fun y0 h => he1 y0 (by subst h; exact (Option.some.inj hN).symm))
def fX2_leastLeavingAll_L7b (s_size : Int32) (s_bys : Nat → Int32) (s_lefts : Nat → Int32) (x1 : Int64) (x3 : Int64) (x5 : Int32) : Option (((Int64) × (Int64) × (Int32)) ⊕ ((Int64))) := if x5 < s_size then Option.bind (fX2_by x5 s_bys) (fun r_2 => Option.bind (itr (fX2_leastLeavingAll_L28 x3 x5 r_2.toInt64 s_lefts) KF (x1, (0 : Int32))) (Sum.elim (fun x1_12 => Option.bind (fX2_bothGoInto x3 r_2.toInt64) (fun r_13 => some (Sum.inl (x1_12, r_13, x5 + (1 : Int32))))) (fun x1_15 => Option.bind (fX2_bothGoInto x3 r_2.toInt64) (fun r_16 => some (Sum.inl (x1_15, r_16, x5 + (1 : Int32))))))) else some (Sum.inr x1)
def fX2_leastLeavingAll_L7 (s_size : Int32) (s_bys : Nat → Int32) (s_lefts : Nat → Int32) : ((Int64) × (Int64) × (Int32)) → Option (((Int64) × (Int64) × (Int32)) ⊕ ((Int64))) := fun e => fX2_leastLeavingAll_L7b s_size s_bys s_lefts e.1 e.2.1 e.2.2
set_option maxHeartbeats 4000000 in
set_option maxRecDepth 100000 in
theorem bX2_leastLeavingAll_L7 {Γ : KT} (C : CX Γ cX2_leastLeavingAll 9 wsX2_leastLeavingAll RX2 ({ frames := 3, cells := 0, slots := 0, locals := 68 } : Room)) (h0 : Nat) (a_s_bys : Nat) (a_s_lefts : Nat) (s_size : Int32) (s_bys : Nat → Int32) (s_lefts : Nat → Int32) (x1 : Int64) (x3 : Int64) (x5 : Int32) (x : ((Int64) × (Int64) × (Int32)) ⊕ ((Int64))) (hm : fX2_leastLeavingAll_L7b s_size s_bys s_lefts x1 x3 x5 = some x) (hb : (∀ (x1' : Int64) (x3' : Int64) (x5' : Int32), x = Sum.inl (x1', x3', x5') → V Γ 9 0 0 7 [(0, .ref h0), (1, .long x1'), (3, .long x3'), (5, .int x5')] [] [(h0, eO 2 [.ref a_s_bys, .ref a_s_lefts, .int s_size]), (a_s_bys, eI 6 s_bys), (a_s_lefts, eI 6 s_lefts)])) (he0 : (∀ (x1' : Int64), x = Sum.inr x1' → V Γ 9 0 0 84 [(1, .long x1')] [] [(h0, eO 2 [.ref a_s_bys, .ref a_s_lefts, .int s_size]), (a_s_bys, eI 6 s_bys), (a_s_lefts, eI 6 s_lefts)])) : V Γ 9 0 0 7 [(0, .ref h0), (1, .long x1), (3, .long x3), (5, .int x5)] [] [(h0, eO 2 [.ref a_s_bys, .ref a_s_lefts, .int s_size]), (a_s_bys, eI 6 s_bys), (a_s_lefts, eI 6 s_lefts)] := by
  unfold fX2_leastLeavingAll_L7b at hm
  refine V_iload C 3 dX2_leastLeavingAll_7 rfl ?_
  refine V_aload_n C 0 dX2_leastLeavingAll_9 rfl rfl ?_
  refine V_get C uX2_leastLeavingAll_X2 0 2 rfl rfl (by decide) mX2_leastLeavingAll_1 rfl dX2_leastLeavingAll_10 ?_
  refine V_icmp_ge C 84 dX2_leastLeavingAll_13 (by decide) (fun c_1 => ?_) (fun c_1 => ?_)
  · have hm := ite_t c_1 hm
    refine V_aload_n C 0 dX2_leastLeavingAll_16 rfl rfl ?_
    refine V_iload C 3 dX2_leastLeavingAll_17 rfl ?_
    obtain ⟨r_2, hc_3, hm⟩ := bnd hm
    refine V_callVI C (As := [.int x5]) (wr := []) (ws2 := [(h0, eO 2 [.ref a_s_bys, .ref a_s_lefts, .int s_size]), (a_s_bys, eI 6 s_bys), (a_s_lefts, eI 6 s_lefts)]) (kX2_by h0 a_s_bys a_s_lefts s_size s_bys s_lefts x5 r_2 hc_3) gX2_leastLeavingAll_X2_by rfl ⟨rfl, rfl⟩ hdX2_by ⟨Nat.le_of_ble_eq_true rfl, Nat.le_of_ble_eq_true rfl⟩ ⟨Nat.zero_le _, Nat.zero_le _⟩ 0 rfl rfl [0, 1, 2] [] [0, 1, 2] rfl rfl ⟨rfl, rfl, rfl⟩ (by decide) rfl rfl (Nat.le_of_ble_eq_true rfl) dX2_leastLeavingAll_19 ?_
    refine V_i2l C dX2_leastLeavingAll_22 ?_
    refine V_lstore C (lv' := [(6, .long r_2.toInt64), (0, .ref h0), (1, .long x1), (3, .long x3), (5, .int x5)]) dX2_leastLeavingAll_23 (by decide) rfl ?_
    refine V_iconst C (v := (0 : Int32)) dX2_leastLeavingAll_25 (by decide) ?_
    refine V_istore C (lv' := [(8, .int (0 : Int32)), (6, .long r_2.toInt64), (0, .ref h0), (1, .long x1), (3, .long x3), (5, .int x5)]) dX2_leastLeavingAll_26 (by decide) rfl ?_
    obtain ⟨e_10, hE_11, hm⟩ := bnd hm
    refine V_lv [2, 3, 4, 5, 1, 0] rfl ?_
    refine lX2_leastLeavingAll_L28 C h0 a_s_bys a_s_lefts x3 x5 r_2.toInt64 s_size s_bys s_lefts x1 (0 : Int32) KF _ hE_11 ?_ ?_
    · intro x1_12 hq
      subst hq
      -- exit
      dsimp only [Sum.elim_inl, Sum.elim_inr, un2, un3, un4, un5, un6, un7, un8, un9, un10, un11] at hm
      refine V_lload_n C 2 dX2_leastLeavingAll_71 rfl rfl ?_
      refine V_lload C 4 dX2_leastLeavingAll_72 rfl ?_
      obtain ⟨r_13, hc_14, hm⟩ := bnd hm
      refine V_callSL C (As := [.long x3, .long r_2.toInt64]) (wr := [(h0, eO 2 [.ref a_s_bys, .ref a_s_lefts, .int s_size]), (a_s_bys, eI 6 s_bys), (a_s_lefts, eI 6 s_lefts)]) (ws2 := [(h0, eO 2 [.ref a_s_bys, .ref a_s_lefts, .int s_size]), (a_s_bys, eI 6 s_bys), (a_s_lefts, eI 6 s_lefts)]) (kX2_bothGoInto x3 r_2.toInt64 r_13 hc_14) gX2_leastLeavingAll_X2_bothGoInto rfl ⟨rfl, rfl⟩ hdX2_bothGoInto ⟨Nat.le_of_ble_eq_true rfl, Nat.le_of_ble_eq_true rfl⟩ ⟨Nat.zero_le _, Nat.zero_le _⟩ [] [0, 1, 2] [0, 1, 2] rfl rfl ⟨rfl, rfl, rfl⟩ (by decide) rfl rfl (Nat.le_of_ble_eq_true rfl) dX2_leastLeavingAll_74 ?_
      refine V_lstore_n C (lv' := [(3, .long r_13), (0, .ref h0), (1, .long x1_12), (5, .int x5), (6, .long r_2.toInt64)]) dX2_leastLeavingAll_77 rfl (by decide) rfl ?_
      refine V_iinc C 3 (v := x5 + (1 : Int32)) (lv' := [(5, .int (x5 + (1 : Int32))), (3, .long r_13), (0, .ref h0), (1, .long x1_12), (6, .long r_2.toInt64)]) dX2_leastLeavingAll_78 rfl rfl (by decide) rfl ?_
      refine V_goto C 7 dX2_leastLeavingAll_81 (by decide) ?_
      refine V_lv [2, 3, 1, 0] rfl ?_
      exact hb x1_12 r_13 (x5 + (1 : Int32)) (Option.some.inj hm).symm
    · intro x1_15 hq
      subst hq
      -- exit
      dsimp only [Sum.elim_inl, Sum.elim_inr, un2, un3, un4, un5, un6, un7, un8, un9, un10, un11] at hm
      refine V_goto C 71 dX2_leastLeavingAll_58 (by decide) ?_
      refine V_lload_n C 2 dX2_leastLeavingAll_71 rfl rfl ?_
      refine V_lload C 4 dX2_leastLeavingAll_72 rfl ?_
      obtain ⟨r_16, hc_17, hm⟩ := bnd hm
      refine V_callSL C (As := [.long x3, .long r_2.toInt64]) (wr := [(h0, eO 2 [.ref a_s_bys, .ref a_s_lefts, .int s_size]), (a_s_bys, eI 6 s_bys), (a_s_lefts, eI 6 s_lefts)]) (ws2 := [(h0, eO 2 [.ref a_s_bys, .ref a_s_lefts, .int s_size]), (a_s_bys, eI 6 s_bys), (a_s_lefts, eI 6 s_lefts)]) (kX2_bothGoInto x3 r_2.toInt64 r_16 hc_17) gX2_leastLeavingAll_X2_bothGoInto rfl ⟨rfl, rfl⟩ hdX2_bothGoInto ⟨Nat.le_of_ble_eq_true rfl, Nat.le_of_ble_eq_true rfl⟩ ⟨Nat.zero_le _, Nat.zero_le _⟩ [] [0, 1, 2] [0, 1, 2] rfl rfl ⟨rfl, rfl, rfl⟩ (by decide) rfl rfl (Nat.le_of_ble_eq_true rfl) dX2_leastLeavingAll_74 ?_
      refine V_lstore_n C (lv' := [(3, .long r_16), (0, .ref h0), (1, .long x1_15), (5, .int x5), (6, .long r_2.toInt64)]) dX2_leastLeavingAll_77 rfl (by decide) rfl ?_
      refine V_iinc C 3 (v := x5 + (1 : Int32)) (lv' := [(5, .int (x5 + (1 : Int32))), (3, .long r_16), (0, .ref h0), (1, .long x1_15), (6, .long r_2.toInt64)]) dX2_leastLeavingAll_78 rfl rfl (by decide) rfl ?_
      refine V_goto C 7 dX2_leastLeavingAll_81 (by decide) ?_
      refine V_lv [2, 3, 1, 0] rfl ?_
      exact hb x1_15 r_16 (x5 + (1 : Int32)) (Option.some.inj hm).symm
  · have hm := ite_f c_1 hm
    refine V_lv [1] rfl ?_
    exact he0 x1 (Option.some.inj hm).symm
theorem lX2_leastLeavingAll_L7 {Γ : KT} (C : CX Γ cX2_leastLeavingAll 9 wsX2_leastLeavingAll RX2 ({ frames := 3, cells := 0, slots := 0, locals := 68 } : Room)) (h0 : Nat) (a_s_bys : Nat) (a_s_lefts : Nat) (s_size : Int32) (s_bys : Nat → Int32) (s_lefts : Nat → Int32) (x1 : Int64) (x3 : Int64) (x5 : Int32) (N : Nat) (e : (Int64)) (hN : itr (fX2_leastLeavingAll_L7 s_size s_bys s_lefts) N (x1, x3, x5) = some e) (he0 : (∀ (x1' : Int64), e = x1' → V Γ 9 0 0 84 [(1, .long x1')] [] [(h0, eO 2 [.ref a_s_bys, .ref a_s_lefts, .int s_size]), (a_s_bys, eI 6 s_bys), (a_s_lefts, eI 6 s_lefts)])) : V Γ 9 0 0 7 [(0, .ref h0), (1, .long x1), (3, .long x3), (5, .int x5)] [] [(h0, eO 2 [.ref a_s_bys, .ref a_s_lefts, .int s_size]), (a_s_bys, eI 6 s_bys), (a_s_lefts, eI 6 s_lefts)] := by
  induction N generalizing x1 x3 x5 with
  | zero => exact absurd hN (fun h => itr_0 h)
  | succ N ih =>
    obtain ⟨x, hx, hN⟩ := itr_s hN
    refine bX2_leastLeavingAll_L7 C h0 a_s_bys a_s_lefts s_size s_bys s_lefts x1 x3 x5 x hx (fun x1' x3' x5' h => ih x1' x3' x5' (by subst h; exact hN)) (fun y0 h => he0 y0 (by subst h; exact (Option.some.inj hN).symm))
def fX2_leastLeavingAll (s_size : Int32) (s_bys : Nat → Int32) (s_lefts : Nat → Int32) : Option ((Int64)) := Option.bind (itr (fX2_leastLeavingAll_L7 s_size s_bys s_lefts) KF ((0 : Int64), (1 : Int64), (0 : Int32))) (fun x1_20 => some x1_20)
set_option maxHeartbeats 4000000 in
set_option maxRecDepth 100000 in
theorem kX2_leastLeavingAll {l : Launch} (h0 : Nat) (a_s_bys : Nat) (a_s_lefts : Nat) (s_size : Int32) (s_bys : Nat → Int32) (s_lefts : Nat → Int32) (r : Int64) (hm : fX2_leastLeavingAll s_size s_bys s_lefts = some r) : CtL l yX2_leastLeavingAll wsX2_leastLeavingAll ({ frames := 3, cells := 0, slots := 0, locals := 68 } : Room) [.ref h0] [(h0, eO 2 [.ref a_s_bys, .ref a_s_lefts, .int s_size]), (a_s_bys, eI 6 s_bys), (a_s_lefts, eI 6 s_lefts)] r [(h0, eO 2 [.ref a_s_bys, .ref a_s_lefts, .int s_size]), (a_s_bys, eI 6 s_bys), (a_s_lefts, eI 6 s_lefts)] := by
  refine CtL_of (cc := cX2_leastLeavingAll) (maxL := 9) (own := RX2) rfl (by decide) rfl (lv0 := [(0, .ref h0)]) rfl (Nat.le_of_ble_eq_true rfl) (fun Γ hL C hR => ?_)
  subst hL
  unfold fX2_leastLeavingAll at hm
  refine V_lconst C (v := (0 : Int64)) dX2_leastLeavingAll_0 (by decide) ?_
  refine V_lstore_n C (lv' := [(1, .long (0 : Int64)), (0, .ref h0)]) dX2_leastLeavingAll_1 rfl (by decide) rfl ?_
  refine V_lconst C (v := (1 : Int64)) dX2_leastLeavingAll_2 (by decide) ?_
  refine V_lstore_n C (lv' := [(3, .long (1 : Int64)), (1, .long (0 : Int64)), (0, .ref h0)]) dX2_leastLeavingAll_3 rfl (by decide) rfl ?_
  refine V_iconst C (v := (0 : Int32)) dX2_leastLeavingAll_4 (by decide) ?_
  refine V_istore C (lv' := [(5, .int (0 : Int32)), (3, .long (1 : Int64)), (1, .long (0 : Int64)), (0, .ref h0)]) dX2_leastLeavingAll_5 (by decide) rfl ?_
  obtain ⟨x1_20, hE_19, hm⟩ := bnd hm
  refine V_lv [3, 2, 1, 0] rfl ?_
  refine lX2_leastLeavingAll_L7 C h0 a_s_bys a_s_lefts s_size s_bys s_lefts (0 : Int64) (1 : Int64) (0 : Int32) KF _ hE_19 ?_
  intro q_21 hq
  cases hq
  refine V_lload_n C 0 dX2_leastLeavingAll_84 rfl rfl ?_
  cases hm
  exact hR _ _ dX2_leastLeavingAll_85
theorem hdX2_leastLeavingAll : yX2_leastLeavingAll.cls = RX2 ∧ yX2_leastLeavingAll.cls ≠ "java/lang/invoke/MethodHandle" ∧ yX2_leastLeavingAll.cls ≠ "java/lang/invoke/VarHandle" ∧ (parseMethodDescriptor yX2_leastLeavingAll.desc).map (fun d => d.parameters.length) = some 0 := by decide +kernel
-- RodBoard$Counts.seekOne(III)I
def fX2_seekOne_L14b (x1 : Int32) (x2 : Int32) (x3 : Int32) (x4 : Int32) (x5 : Int32) (x6 : Int32) (x7 : Int32) : Option (((Int32) × (Int32) × (Int32) × (Int32) × (Int32)) ⊕ ((Int32) × (Int32) × (Int32))) := if x7 < (1000 : Int32) then if x5 = (0 : Int32) then some (Sum.inr (x3, x4, x7)) else Option.bind (dvI x3 x5) (fun v_3 => some (Sum.inl (x5, x6, x3 - (v_3 * x5), x4 - (v_3 * x6), x7 + (1 : Int32)))) else some (Sum.inr (x3, x4, x7))
def fX2_seekOne_L14 (x1 : Int32) (x2 : Int32) : ((Int32) × (Int32) × (Int32) × (Int32) × (Int32)) → Option (((Int32) × (Int32) × (Int32) × (Int32) × (Int32)) ⊕ ((Int32) × (Int32) × (Int32))) := fun e => fX2_seekOne_L14b x1 x2 e.1 e.2.1 e.2.2.1 e.2.2.2.1 e.2.2.2.2
set_option maxHeartbeats 4000000 in
set_option maxRecDepth 100000 in
theorem bX2_seekOne_L14 {Γ : KT} (C : CX Γ cX2_seekOne 11 wsX2_seekOne RX2 ({ frames := 0, cells := 0, slots := 0, locals := 0 } : Room)) (x1 : Int32) (x2 : Int32) (x3 : Int32) (x4 : Int32) (x5 : Int32) (x6 : Int32) (x7 : Int32) (x : ((Int32) × (Int32) × (Int32) × (Int32) × (Int32)) ⊕ ((Int32) × (Int32) × (Int32))) (hm : fX2_seekOne_L14b x1 x2 x3 x4 x5 x6 x7 = some x) (hb : (∀ (x3' : Int32) (x4' : Int32) (x5' : Int32) (x6' : Int32) (x7' : Int32), x = Sum.inl (x3', x4', x5', x6', x7') → V Γ 11 0 0 14 [(1, .int x1), (2, .int x2), (3, .int x3'), (4, .int x4'), (5, .int x5'), (6, .int x6'), (7, .int x7')] [] [])) (he0 : (∀ (x3' : Int32) (x4' : Int32) (x7' : Int32), x = Sum.inr (x3', x4', x7') → V Γ 11 0 0 73 [(1, .int x1), (2, .int x2), (3, .int x3'), (4, .int x4'), (7, .int x7')] [] [])) : V Γ 11 0 0 14 [(1, .int x1), (2, .int x2), (3, .int x3), (4, .int x4), (5, .int x5), (6, .int x6), (7, .int x7)] [] [] := by
  unfold fX2_seekOne_L14b at hm
  refine V_iload C 6 dX2_seekOne_14 rfl ?_
  refine V_sipush C (v := (1000 : Int32)) dX2_seekOne_16 (by decide) ?_
  refine V_icmp_ge C 73 dX2_seekOne_19 (by decide) (fun c_1 => ?_) (fun c_1 => ?_)
  · have hm := ite_t c_1 hm
    refine V_iload C 4 dX2_seekOne_22 rfl ?_
    refine V_if_eq C 73 dX2_seekOne_24 (by decide) (fun c_2 => ?_) (fun c_2 => ?_)
    · have hm := ite_t c_2 hm
      refine V_lv [0, 1, 2, 3, 6] rfl ?_
      exact he0 x3 x4 x7 (Option.some.inj hm).symm
    · have hm := ite_f c_2 hm
      refine V_iload_n C 2 dX2_seekOne_27 rfl rfl ?_
      refine V_iload C 4 dX2_seekOne_28 rfl ?_
      obtain ⟨v_3, hv_3, hm⟩ := bnd hm
      refine V_idiv C hv_3 dX2_seekOne_30 ?_
      refine V_istore C (lv' := [(8, .int v_3), (1, .int x1), (2, .int x2), (3, .int x3), (4, .int x4), (5, .int x5), (6, .int x6), (7, .int x7)]) dX2_seekOne_31 (by decide) rfl ?_
      refine V_iload_n C 3 dX2_seekOne_33 rfl rfl ?_
      refine V_iload C 0 dX2_seekOne_34 rfl ?_
      refine V_iload C 5 dX2_seekOne_36 rfl ?_
      refine V_imul C dX2_seekOne_38 ?_
      refine V_isub C dX2_seekOne_39 ?_
      refine V_istore C (lv' := [(9, .int (x3 - (v_3 * x5))), (8, .int v_3), (1, .int x1), (2, .int x2), (3, .int x3), (4, .int x4), (5, .int x5), (6, .int x6), (7, .int x7)]) dX2_seekOne_40 (by decide) rfl ?_
      refine V_iload C 5 dX2_seekOne_42 rfl ?_
      refine V_iload C 1 dX2_seekOne_44 rfl ?_
      refine V_iload C 7 dX2_seekOne_46 rfl ?_
      refine V_imul C dX2_seekOne_48 ?_
      refine V_isub C dX2_seekOne_49 ?_
      refine V_istore C (lv' := [(10, .int (x4 - (v_3 * x6))), (9, .int (x3 - (v_3 * x5))), (8, .int v_3), (1, .int x1), (2, .int x2), (3, .int x3), (4, .int x4), (5, .int x5), (6, .int x6), (7, .int x7)]) dX2_seekOne_50 (by decide) rfl ?_
      refine V_iload C 7 dX2_seekOne_52 rfl ?_
      refine V_istore_n C (lv' := [(3, .int x5), (10, .int (x4 - (v_3 * x6))), (9, .int (x3 - (v_3 * x5))), (8, .int v_3), (1, .int x1), (2, .int x2), (4, .int x4), (5, .int x5), (6, .int x6), (7, .int x7)]) dX2_seekOne_54 rfl (by decide) rfl ?_
      refine V_iload C 8 dX2_seekOne_55 rfl ?_
      refine V_istore C (lv' := [(4, .int x6), (3, .int x5), (10, .int (x4 - (v_3 * x6))), (9, .int (x3 - (v_3 * x5))), (8, .int v_3), (1, .int x1), (2, .int x2), (5, .int x5), (6, .int x6), (7, .int x7)]) dX2_seekOne_57 (by decide) rfl ?_
      refine V_iload C 3 dX2_seekOne_59 rfl ?_
      refine V_istore C (lv' := [(5, .int (x3 - (v_3 * x5))), (4, .int x6), (3, .int x5), (10, .int (x4 - (v_3 * x6))), (9, .int (x3 - (v_3 * x5))), (8, .int v_3), (1, .int x1), (2, .int x2), (6, .int x6), (7, .int x7)]) dX2_seekOne_61 (by decide) rfl ?_
      refine V_iload C 3 dX2_seekOne_63 rfl ?_
      refine V_istore C (lv' := [(6, .int (x4 - (v_3 * x6))), (5, .int (x3 - (v_3 * x5))), (4, .int x6), (3, .int x5), (10, .int (x4 - (v_3 * x6))), (9, .int (x3 - (v_3 * x5))), (8, .int v_3), (1, .int x1), (2, .int x2), (7, .int x7)]) dX2_seekOne_65 (by decide) rfl ?_
      refine V_iinc C 9 (v := x7 + (1 : Int32)) (lv' := [(7, .int (x7 + (1 : Int32))), (6, .int (x4 - (v_3 * x6))), (5, .int (x3 - (v_3 * x5))), (4, .int x6), (3, .int x5), (10, .int (x4 - (v_3 * x6))), (9, .int (x3 - (v_3 * x5))), (8, .int v_3), (1, .int x1), (2, .int x2)]) dX2_seekOne_67 rfl rfl (by decide) rfl ?_
      refine V_goto C 14 dX2_seekOne_70 (by decide) ?_
      refine V_lv [8, 9, 4, 3, 2, 1, 0] rfl ?_
      exact hb x5 x6 (x3 - (v_3 * x5)) (x4 - (v_3 * x6)) (x7 + (1 : Int32)) (Option.some.inj hm).symm
  · have hm := ite_f c_1 hm
    refine V_lv [0, 1, 2, 3, 6] rfl ?_
    exact he0 x3 x4 x7 (Option.some.inj hm).symm
theorem lX2_seekOne_L14 {Γ : KT} (C : CX Γ cX2_seekOne 11 wsX2_seekOne RX2 ({ frames := 0, cells := 0, slots := 0, locals := 0 } : Room)) (x1 : Int32) (x2 : Int32) (x3 : Int32) (x4 : Int32) (x5 : Int32) (x6 : Int32) (x7 : Int32) (N : Nat) (e : (Int32) × (Int32) × (Int32)) (hN : itr (fX2_seekOne_L14 x1 x2) N (x3, x4, x5, x6, x7) = some e) (he0 : (∀ (x3' : Int32) (x4' : Int32) (x7' : Int32), e = (x3', x4', x7') → V Γ 11 0 0 73 [(1, .int x1), (2, .int x2), (3, .int x3'), (4, .int x4'), (7, .int x7')] [] [])) : V Γ 11 0 0 14 [(1, .int x1), (2, .int x2), (3, .int x3), (4, .int x4), (5, .int x5), (6, .int x6), (7, .int x7)] [] [] := by
  induction N generalizing x3 x4 x5 x6 x7 with
  | zero => exact absurd hN (fun h => itr_0 h)
  | succ N ih =>
    obtain ⟨x, hx, hN⟩ := itr_s hN
    refine bX2_seekOne_L14 C x1 x2 x3 x4 x5 x6 x7 x hx (fun x3' x4' x5' x6' x7' h => ih x3' x4' x5' x6' x7' (by subst h; exact hN)) (fun y0 y1 y2 h => he0 y0 y1 y2 (by subst h; exact (Option.some.inj hN).symm))
def fX2_seekOne_B73 (x1 : Int32) (x2 : Int32) (x3 : Int32) (x4 : Int32) (x7 : Int32) : Option ((Int32)) := if x2 = (0 : Int32) then some x7 else if x2 = (2 : Int32) then some x3 else if x3 = (1 : Int32) then if x4 < (0 : Int32) then some (x4 + x1) else some x4 else some (-6 : Int32)
set_option maxHeartbeats 4000000 in
set_option maxRecDepth 100000 in
theorem jX2_seekOne_B73 {Γ : KT} (C : CX Γ cX2_seekOne 11 wsX2_seekOne RX2 ({ frames := 0, cells := 0, slots := 0, locals := 0 } : Room)) (x1 : Int32) (x2 : Int32) (x3 : Int32) (x4 : Int32) (x7 : Int32) (r : Int32) (hm : fX2_seekOne_B73 x1 x2 x3 x4 x7 = some r) (hR : (∀ (pc : Nat) (lv : List (Nat × Value)), narrow .int (.int r) = .int r → decode cX2_seekOne pc = .ok (.ireturn, 1) → V Γ 11 0 0 pc lv [.int r] [])) : V Γ 11 0 0 73 [(1, .int x1), (2, .int x2), (3, .int x3), (4, .int x4), (7, .int x7)] [] [] := by
  unfold fX2_seekOne_B73 at hm
  refine V_iload_n C 1 dX2_seekOne_73 rfl rfl ?_
  refine V_if_ne C 80 dX2_seekOne_74 (by decide) (fun c_9 => ?_) (fun c_9 => ?_)
  · have hm := ite_t c_9 hm
    refine V_iload C 4 dX2_seekOne_77 rfl ?_
    cases hm
    exact hR _ _ rfl dX2_seekOne_79
  · have hm := ite_f c_9 hm
    refine V_iload_n C 1 dX2_seekOne_80 rfl rfl ?_
    refine V_iconst C (v := (2 : Int32)) dX2_seekOne_81 (by decide) ?_
    refine V_icmp_ne C 87 dX2_seekOne_82 (by decide) (fun c_10 => ?_) (fun c_10 => ?_)
    · have hm := ite_t c_10 hm
      refine V_iload_n C 2 dX2_seekOne_85 rfl rfl ?_
      cases hm
      exact hR _ _ rfl dX2_seekOne_86
    · have hm := ite_f c_10 hm
      refine V_iload_n C 2 dX2_seekOne_87 rfl rfl ?_
      refine V_iconst C (v := (1 : Int32)) dX2_seekOne_88 (by decide) ?_
      refine V_icmp_eq C 95 dX2_seekOne_89 (by decide) (fun c_11 => ?_) (fun c_11 => ?_)
      · have hm := ite_t c_11 hm
        refine V_iload C 3 dX2_seekOne_95 rfl ?_
        refine V_if_ge C 107 dX2_seekOne_97 (by decide) (fun c_12 => ?_) (fun c_12 => ?_)
        · have hm := ite_t c_12 hm
          refine V_iload C 3 dX2_seekOne_100 rfl ?_
          refine V_iload_n C 0 dX2_seekOne_102 rfl rfl ?_
          refine V_iadd C dX2_seekOne_103 ?_
          refine V_goto C 109 dX2_seekOne_104 (by decide) ?_
          cases hm
          exact hR _ _ rfl dX2_seekOne_109
        · have hm := ite_f c_12 hm
          refine V_iload C 3 dX2_seekOne_107 rfl ?_
          cases hm
          exact hR _ _ rfl dX2_seekOne_109
      · have hm := ite_f c_11 hm
        refine V_bipush C (v := (-6 : Int32)) dX2_seekOne_92 (by decide) ?_
        cases hm
        exact hR _ _ rfl dX2_seekOne_94
def fX2_seekOne (p0 : Int32) (p1 : Int32) (p2 : Int32) : Option ((Int32)) := bn3 (itr (fX2_seekOne_L14 p1 p2) KF (p1, (0 : Int32), p0, (1 : Int32), (0 : Int32))) (fun x3_6 x4_7 x7_8 => fX2_seekOne_B73 p1 p2 x3_6 x4_7 x7_8)
set_option maxHeartbeats 4000000 in
set_option maxRecDepth 100000 in
theorem kX2_seekOne {l : Launch} (p0 : Int32) (p1 : Int32) (p2 : Int32) (r : Int32) (hm : fX2_seekOne p0 p1 p2 = some r) : CtI l yX2_seekOne wsX2_seekOne ({ frames := 0, cells := 0, slots := 0, locals := 0 } : Room) [.int p0, .int p1, .int p2] [] r [] := by
  refine CtI_of (cc := cX2_seekOne) (maxL := 11) (ty := .int) (own := RX2) rfl (by decide) rfl (lv0 := [(0, .int p0), (1, .int p1), (2, .int p2)]) rfl (Nat.le_of_ble_eq_true rfl) (fun Γ hL C hR => ?_)
  subst hL
  unfold fX2_seekOne at hm
  refine V_iload_n C 1 dX2_seekOne_0 rfl rfl ?_
  refine V_istore_n C (lv' := [(3, .int p1), (0, .int p0), (1, .int p1), (2, .int p2)]) dX2_seekOne_1 rfl (by decide) rfl ?_
  refine V_iconst C (v := (0 : Int32)) dX2_seekOne_2 (by decide) ?_
  refine V_istore C (lv' := [(4, .int (0 : Int32)), (3, .int p1), (0, .int p0), (1, .int p1), (2, .int p2)]) dX2_seekOne_3 (by decide) rfl ?_
  refine V_iload_n C 2 dX2_seekOne_5 rfl rfl ?_
  refine V_istore C (lv' := [(5, .int p0), (4, .int (0 : Int32)), (3, .int p1), (0, .int p0), (1, .int p1), (2, .int p2)]) dX2_seekOne_6 (by decide) rfl ?_
  refine V_iconst C (v := (1 : Int32)) dX2_seekOne_8 (by decide) ?_
  refine V_istore C (lv' := [(6, .int (1 : Int32)), (5, .int p0), (4, .int (0 : Int32)), (3, .int p1), (0, .int p0), (1, .int p1), (2, .int p2)]) dX2_seekOne_9 (by decide) rfl ?_
  refine V_iconst C (v := (0 : Int32)) dX2_seekOne_11 (by decide) ?_
  refine V_istore C (lv' := [(7, .int (0 : Int32)), (6, .int (1 : Int32)), (5, .int p0), (4, .int (0 : Int32)), (3, .int p1), (0, .int p0), (1, .int p1), (2, .int p2)]) dX2_seekOne_12 (by decide) rfl ?_
  obtain ⟨x3_6, x4_7, x7_8, hE_5, hm⟩ := bd3 hm
  refine V_lv [6, 7, 4, 3, 2, 1, 0] rfl ?_
  refine lX2_seekOne_L14 C p1 p2 p1 (0 : Int32) p0 (1 : Int32) (0 : Int32) KF _ hE_5 ?_
  intro q_13 q_14 q_15 hq
  cases hq
  refine V_lv [0, 1, 2, 3, 4] rfl ?_
  exact jX2_seekOne_B73 C p1 p2 x3_6 x4_7 x7_8 _ hm hR
theorem hdX2_seekOne : yX2_seekOne.cls ≠ "java/lang/invoke/MethodHandle" ∧ yX2_seekOne.cls ≠ "java/lang/invoke/VarHandle" ∧ (parseMethodDescriptor yX2_seekOne.desc).map (fun d => d.parameters.length) = some 3 := by decide +kernel
-- RodBoard$Problems.isTold(I)Z
theorem mX4_isTold_1 : Cond.constant RX4 9 (1000000) ∈ wsX4_isTold := List.mem_of_getElem? (i := 1) rfl
def fX4_isTold (p0 : Int32) : Option ((Int32)) := if p0 < (0 : Int32) then some (0 : Int32) else if (1000000 : Int32) < p0 then some (0 : Int32) else some (1 : Int32)
set_option maxHeartbeats 4000000 in
set_option maxRecDepth 100000 in
theorem kX4_isTold {l : Launch} (p0 : Int32) (r : Int32) (hm : fX4_isTold p0 = some r) : CtI l yX4_isTold wsX4_isTold ({ frames := 0, cells := 0, slots := 0, locals := 0 } : Room) [.int p0] [] r [] := by
  refine CtI_of (cc := cX4_isTold) (maxL := 1) (ty := .boolean) (own := RX4) rfl (by decide) rfl (lv0 := [(0, .int p0)]) rfl (Nat.le_of_ble_eq_true rfl) (fun Γ hL C hR => ?_)
  subst hL
  unfold fX4_isTold at hm
  refine V_iload_n C 0 dX4_isTold_0 rfl rfl ?_
  refine V_if_lt C 14 dX4_isTold_1 (by decide) (fun c_1 => ?_) (fun c_1 => ?_)
  · have hm := ite_t c_1 hm
    refine V_iconst C (v := (0 : Int32)) dX4_isTold_14 (by decide) ?_
    cases hm
    exact hR _ _ rfl dX4_isTold_15
  · have hm := ite_f c_1 hm
    refine V_iload_n C 0 dX4_isTold_4 rfl rfl ?_
    refine V_ldc C (v := (1000000 : Int32)) mX4_isTold_1 dX4_isTold_5 ?_
    refine V_icmp_gt C 14 dX4_isTold_7 (by decide) (fun c_2 => ?_) (fun c_2 => ?_)
    · have hm := ite_t c_2 hm
      refine V_iconst C (v := (0 : Int32)) dX4_isTold_14 (by decide) ?_
      cases hm
      exact hR _ _ rfl dX4_isTold_15
    · have hm := ite_f c_2 hm
      refine V_iconst C (v := (1 : Int32)) dX4_isTold_10 (by decide) ?_
      refine V_goto C 15 dX4_isTold_11 (by decide) ?_
      cases hm
      exact hR _ _ rfl dX4_isTold_15
theorem hdX4_isTold : yX4_isTold.cls ≠ "java/lang/invoke/MethodHandle" ∧ yX4_isTold.cls ≠ "java/lang/invoke/VarHandle" ∧ (parseMethodDescriptor yX4_isTold.desc).map (fun d => d.parameters.length) = some 1 := by decide +kernel
-- RodBoard$Problems.shared(III)J
theorem mX4_shared_1 : Cond.constantLong RX4 10 (-1000000000000005) ∈ wsX4_shared := List.mem_of_getElem? (i := 1) rfl
def fX4_shared (p0 : Int32) (p1 : Int32) (p2 : Int32) : Option ((Int64)) := if p1 = (0 : Int32) then some (-1000000000000005 : Int64) else if p2 = (0 : Int32) then Option.bind (dvI p0 p1) (fun v_3 => some v_3.toInt64) else Option.bind (rmI p0 p1) (fun v_4 => some v_4.toInt64)
set_option maxHeartbeats 4000000 in
set_option maxRecDepth 100000 in
theorem kX4_shared {l : Launch} (p0 : Int32) (p1 : Int32) (p2 : Int32) (r : Int64) (hm : fX4_shared p0 p1 p2 = some r) : CtL l yX4_shared wsX4_shared ({ frames := 0, cells := 0, slots := 0, locals := 0 } : Room) [.int p0, .int p1, .int p2] [] r [] := by
  refine CtL_of (cc := cX4_shared) (maxL := 3) (own := RX4) rfl (by decide) rfl (lv0 := [(0, .int p0), (1, .int p1), (2, .int p2)]) rfl (Nat.le_of_ble_eq_true rfl) (fun Γ hL C hR => ?_)
  subst hL
  unfold fX4_shared at hm
  refine V_iload_n C 1 dX4_shared_0 rfl rfl ?_
  refine V_if_ne C 8 dX4_shared_1 (by decide) (fun c_1 => ?_) (fun c_1 => ?_)
  · have hm := ite_t c_1 hm
    refine V_ldc2 C (v := (-1000000000000005 : Int64)) mX4_shared_1 dX4_shared_4 ?_
    cases hm
    exact hR _ _ dX4_shared_7
  · have hm := ite_f c_1 hm
    refine V_iload_n C 2 dX4_shared_8 rfl rfl ?_
    refine V_if_ne C 19 dX4_shared_9 (by decide) (fun c_2 => ?_) (fun c_2 => ?_)
    · have hm := ite_t c_2 hm
      refine V_iload_n C 0 dX4_shared_12 rfl rfl ?_
      refine V_iload_n C 1 dX4_shared_13 rfl rfl ?_
      obtain ⟨v_3, hv_3, hm⟩ := bnd hm
      refine V_idiv C hv_3 dX4_shared_14 ?_
      refine V_i2l C dX4_shared_15 ?_
      refine V_goto C 23 dX4_shared_16 (by decide) ?_
      cases hm
      exact hR _ _ dX4_shared_23
    · have hm := ite_f c_2 hm
      refine V_iload_n C 0 dX4_shared_19 rfl rfl ?_
      refine V_iload_n C 1 dX4_shared_20 rfl rfl ?_
      obtain ⟨v_4, hv_4, hm⟩ := bnd hm
      refine V_irem C hv_4 dX4_shared_21 ?_
      refine V_i2l C dX4_shared_22 ?_
      cases hm
      exact hR _ _ dX4_shared_23
theorem hdX4_shared : yX4_shared.cls ≠ "java/lang/invoke/MethodHandle" ∧ yX4_shared.cls ≠ "java/lang/invoke/VarHandle" ∧ (parseMethodDescriptor yX4_shared.desc).map (fun d => d.parameters.length) = some 3 := by decide +kernel
-- RodBoard$Problems.side(II)J
theorem mX4_side_1 : Cond.constantLong RX4 12 (1000000) ∈ wsX4_side := List.mem_of_getElem? (i := 1) rfl
def fX4_side_L2b (x0 : Int32) (x1 : Int32) (x2 : Int64) : Option (((Int64)) ⊕ ((Int64))) := if x2 < (1000000 : Int64) then if x0.toInt64 < ((x2 + (1 : Int64)) * (x2 + (1 : Int64))) then some (Sum.inr x2) else some (Sum.inl (x2 + (1 : Int64))) else some (Sum.inr x2)
def fX4_side_L2 (x0 : Int32) (x1 : Int32) : ((Int64)) → Option (((Int64)) ⊕ ((Int64))) := fun e => fX4_side_L2b x0 x1 e
set_option maxHeartbeats 4000000 in
set_option maxRecDepth 100000 in
theorem bX4_side_L2 {Γ : KT} (C : CX Γ cX4_side 4 wsX4_side RX4 ({ frames := 0, cells := 0, slots := 0, locals := 0 } : Room)) (x0 : Int32) (x1 : Int32) (x2 : Int64) (x : ((Int64)) ⊕ ((Int64))) (hm : fX4_side_L2b x0 x1 x2 = some x) (hb : (∀ (x2' : Int64), x = Sum.inl x2' → V Γ 4 0 0 2 [(0, .int x0), (1, .int x1), (2, .long x2')] [] [])) (he0 : (∀ (x2' : Int64), x = Sum.inr x2' → V Γ 4 0 0 30 [(0, .int x0), (1, .int x1), (2, .long x2')] [] [])) : V Γ 4 0 0 2 [(0, .int x0), (1, .int x1), (2, .long x2)] [] [] := by
  unfold fX4_side_L2b at hm
  refine V_lload_n C 2 dX4_side_2 rfl rfl ?_
  refine V_ldc2 C (v := (1000000 : Int64)) mX4_side_1 dX4_side_3 ?_
  refine V_lcmp_ge C 30 dX4_side_6 dX4_side_7 (by decide) (fun c_1 => ?_) (fun c_1 => ?_)
  · have hm := ite_t c_1 hm
    refine V_lload_n C 2 dX4_side_10 rfl rfl ?_
    refine V_lconst C (v := (1 : Int64)) dX4_side_11 (by decide) ?_
    refine V_ladd C dX4_side_12 ?_
    refine V_lload_n C 2 dX4_side_13 rfl rfl ?_
    refine V_lconst C (v := (1 : Int64)) dX4_side_14 (by decide) ?_
    refine V_ladd C dX4_side_15 ?_
    refine V_lmul C dX4_side_16 ?_
    refine V_iload_n C 0 dX4_side_17 rfl rfl ?_
    refine V_i2l C dX4_side_18 ?_
    refine V_lcmp_gt C 30 dX4_side_19 dX4_side_20 (by decide) (fun c_2 => ?_) (fun c_2 => ?_)
    · have hm := ite_t c_2 hm
      refine V_lv [0, 1, 2] rfl ?_
      exact he0 x2 (Option.some.inj hm).symm
    · have hm := ite_f c_2 hm
      refine V_lload_n C 2 dX4_side_23 rfl rfl ?_
      refine V_lconst C (v := (1 : Int64)) dX4_side_24 (by decide) ?_
      refine V_ladd C dX4_side_25 ?_
      refine V_lstore_n C (lv' := [(2, .long (x2 + (1 : Int64))), (0, .int x0), (1, .int x1)]) dX4_side_26 rfl (by decide) rfl ?_
      refine V_goto C 2 dX4_side_27 (by decide) ?_
      refine V_lv [1, 2, 0] rfl ?_
      exact hb (x2 + (1 : Int64)) (Option.some.inj hm).symm
  · have hm := ite_f c_1 hm
    refine V_lv [0, 1, 2] rfl ?_
    exact he0 x2 (Option.some.inj hm).symm
theorem lX4_side_L2 {Γ : KT} (C : CX Γ cX4_side 4 wsX4_side RX4 ({ frames := 0, cells := 0, slots := 0, locals := 0 } : Room)) (x0 : Int32) (x1 : Int32) (x2 : Int64) (N : Nat) (e : (Int64)) (hN : itr (fX4_side_L2 x0 x1) N x2 = some e) (he0 : (∀ (x2' : Int64), e = x2' → V Γ 4 0 0 30 [(0, .int x0), (1, .int x1), (2, .long x2')] [] [])) : V Γ 4 0 0 2 [(0, .int x0), (1, .int x1), (2, .long x2)] [] [] := by
  induction N generalizing x2 with
  | zero => exact absurd hN (fun h => itr_0 h)
  | succ N ih =>
    obtain ⟨x, hx, hN⟩ := itr_s hN
    refine bX4_side_L2 C x0 x1 x2 x hx (fun x2' h => ih x2' (by subst h; exact hN)) (fun y0 h => he0 y0 (by subst h; exact (Option.some.inj hN).symm))
def fX4_side (p0 : Int32) (p1 : Int32) : Option ((Int64)) := Option.bind (itr (fX4_side_L2 p0 p1) KF (0 : Int64)) (fun x2_5 => if p1 = (0 : Int32) then some x2_5 else some (p0.toInt64 - (x2_5 * x2_5)))
set_option maxHeartbeats 4000000 in
set_option maxRecDepth 100000 in
theorem kX4_side {l : Launch} (p0 : Int32) (p1 : Int32) (r : Int64) (hm : fX4_side p0 p1 = some r) : CtL l yX4_side wsX4_side ({ frames := 0, cells := 0, slots := 0, locals := 0 } : Room) [.int p0, .int p1] [] r [] := by
  refine CtL_of (cc := cX4_side) (maxL := 4) (own := RX4) rfl (by decide) rfl (lv0 := [(0, .int p0), (1, .int p1)]) rfl (Nat.le_of_ble_eq_true rfl) (fun Γ hL C hR => ?_)
  subst hL
  unfold fX4_side at hm
  refine V_lconst C (v := (0 : Int64)) dX4_side_0 (by decide) ?_
  refine V_lstore_n C (lv' := [(2, .long (0 : Int64)), (0, .int p0), (1, .int p1)]) dX4_side_1 rfl (by decide) rfl ?_
  obtain ⟨x2_5, hE_4, hm⟩ := bnd hm
  refine V_lv [1, 2, 0] rfl ?_
  refine lX4_side_L2 C p0 p1 (0 : Int64) KF _ hE_4 ?_
  intro q_7 hq
  cases hq
  refine V_iload_n C 1 dX4_side_30 rfl rfl ?_
  refine V_if_ne C 38 dX4_side_31 (by decide) (fun c_6 => ?_) (fun c_6 => ?_)
  · have hm := ite_t c_6 hm
    refine V_lload_n C 2 dX4_side_34 rfl rfl ?_
    refine V_goto C 44 dX4_side_35 (by decide) ?_
    cases hm
    exact hR _ _ dX4_side_44
  · have hm := ite_f c_6 hm
    refine V_iload_n C 0 dX4_side_38 rfl rfl ?_
    refine V_i2l C dX4_side_39 ?_
    refine V_lload_n C 2 dX4_side_40 rfl rfl ?_
    refine V_lload_n C 2 dX4_side_41 rfl rfl ?_
    refine V_lmul C dX4_side_42 ?_
    refine V_lsub C dX4_side_43 ?_
    cases hm
    exact hR _ _ dX4_side_44
theorem hdX4_side : yX4_side.cls ≠ "java/lang/invoke/MethodHandle" ∧ yX4_side.cls ≠ "java/lang/invoke/VarHandle" ∧ (parseMethodDescriptor yX4_side.desc).map (fun d => d.parameters.length) = some 2 := by decide +kernel
-- RodBoard$Problems.birdsAndBeasts(IIII)J
theorem mX4_birdsAndBeasts_1 : Cond.constantLong RX4 10 (-1000000000000005) ∈ wsX4_birdsAndBeasts := List.mem_of_getElem? (i := 1) rfl
def fX4_birdsAndBeasts (p0 : Int32) (p1 : Int32) (p2 : Int32) (p3 : Int32) : Option ((Int64)) := if (0 : Int32) < (p2 - (2 : Int32)) then if (p1 - ((2 : Int32) * p0)) < (0 : Int32) then some (-1000000000000005 : Int64) else Option.bind (rmI (p1 - ((2 : Int32) * p0)) (p2 - (2 : Int32))) (fun v_3 => if v_3 = (0 : Int32) then Option.bind (dvI (p1 - ((2 : Int32) * p0)) (p2 - (2 : Int32))) (fun v_5 => if p0 < v_5 then some (-1000000000000005 : Int64) else if p3 = (0 : Int32) then some ((p0 - v_5).toInt64) else some v_5.toInt64) else some (-1000000000000005 : Int64)) else some (-1000000000000005 : Int64)
set_option maxHeartbeats 4000000 in
set_option maxRecDepth 100000 in
theorem kX4_birdsAndBeasts {l : Launch} (p0 : Int32) (p1 : Int32) (p2 : Int32) (p3 : Int32) (r : Int64) (hm : fX4_birdsAndBeasts p0 p1 p2 p3 = some r) : CtL l yX4_birdsAndBeasts wsX4_birdsAndBeasts ({ frames := 0, cells := 0, slots := 0, locals := 0 } : Room) [.int p0, .int p1, .int p2, .int p3] [] r [] := by
  refine CtL_of (cc := cX4_birdsAndBeasts) (maxL := 7) (own := RX4) rfl (by decide) rfl (lv0 := [(0, .int p0), (1, .int p1), (2, .int p2), (3, .int p3)]) rfl (Nat.le_of_ble_eq_true rfl) (fun Γ hL C hR => ?_)
  subst hL
  unfold fX4_birdsAndBeasts at hm
  refine V_iload_n C 1 dX4_birdsAndBeasts_0 rfl rfl ?_
  refine V_iconst C (v := (2 : Int32)) dX4_birdsAndBeasts_1 (by decide) ?_
  refine V_iload_n C 0 dX4_birdsAndBeasts_2 rfl rfl ?_
  refine V_imul C dX4_birdsAndBeasts_3 ?_
  refine V_isub C dX4_birdsAndBeasts_4 ?_
  refine V_istore C (lv' := [(4, .int (p1 - ((2 : Int32) * p0))), (0, .int p0), (1, .int p1), (2, .int p2), (3, .int p3)]) dX4_birdsAndBeasts_5 (by decide) rfl ?_
  refine V_iload_n C 3 dX4_birdsAndBeasts_7 rfl rfl ?_
  refine V_iconst C (v := (2 : Int32)) dX4_birdsAndBeasts_8 (by decide) ?_
  refine V_isub C dX4_birdsAndBeasts_9 ?_
  refine V_istore C (lv' := [(5, .int (p2 - (2 : Int32))), (4, .int (p1 - ((2 : Int32) * p0))), (0, .int p0), (1, .int p1), (2, .int p2), (3, .int p3)]) dX4_birdsAndBeasts_10 (by decide) rfl ?_
  refine V_iload C 0 dX4_birdsAndBeasts_12 rfl ?_
  refine V_if_le C 30 dX4_birdsAndBeasts_14 (by decide) (fun c_1 => ?_) (fun c_1 => ?_)
  · have hm := ite_t c_1 hm
    refine V_iload C 1 dX4_birdsAndBeasts_17 rfl ?_
    refine V_if_lt C 30 dX4_birdsAndBeasts_19 (by decide) (fun c_2 => ?_) (fun c_2 => ?_)
    · have hm := ite_t c_2 hm
      refine V_ldc2 C (v := (-1000000000000005 : Int64)) mX4_birdsAndBeasts_1 dX4_birdsAndBeasts_30 ?_
      cases hm
      exact hR _ _ dX4_birdsAndBeasts_33
    · have hm := ite_f c_2 hm
      refine V_iload C 1 dX4_birdsAndBeasts_22 rfl ?_
      refine V_iload C 0 dX4_birdsAndBeasts_24 rfl ?_
      obtain ⟨v_3, hv_3, hm⟩ := bnd hm
      refine V_irem C hv_3 dX4_birdsAndBeasts_26 ?_
      refine V_if_eq C 34 dX4_birdsAndBeasts_27 (by decide) (fun c_4 => ?_) (fun c_4 => ?_)
      · have hm := ite_t c_4 hm
        refine V_iload C 1 dX4_birdsAndBeasts_34 rfl ?_
        refine V_iload C 0 dX4_birdsAndBeasts_36 rfl ?_
        obtain ⟨v_5, hv_5, hm⟩ := bnd hm
        refine V_idiv C hv_5 dX4_birdsAndBeasts_38 ?_
        refine V_istore C (lv' := [(6, .int v_5), (5, .int (p2 - (2 : Int32))), (4, .int (p1 - ((2 : Int32) * p0))), (0, .int p0), (1, .int p1), (2, .int p2), (3, .int p3)]) dX4_birdsAndBeasts_39 (by decide) rfl ?_
        refine V_iload C 0 dX4_birdsAndBeasts_41 rfl ?_
        refine V_iload_n C 3 dX4_birdsAndBeasts_43 rfl rfl ?_
        refine V_icmp_le C 51 dX4_birdsAndBeasts_44 (by decide) (fun c_6 => ?_) (fun c_6 => ?_)
        · have hm := ite_t c_6 hm
          refine V_ldc2 C (v := (-1000000000000005 : Int64)) mX4_birdsAndBeasts_1 dX4_birdsAndBeasts_47 ?_
          cases hm
          exact hR _ _ dX4_birdsAndBeasts_50
        · have hm := ite_f c_6 hm
          refine V_iload_n C 6 dX4_birdsAndBeasts_51 rfl rfl ?_
          refine V_if_ne C 63 dX4_birdsAndBeasts_52 (by decide) (fun c_7 => ?_) (fun c_7 => ?_)
          · have hm := ite_t c_7 hm
            refine V_iload_n C 3 dX4_birdsAndBeasts_55 rfl rfl ?_
            refine V_iload C 0 dX4_birdsAndBeasts_56 rfl ?_
            refine V_isub C dX4_birdsAndBeasts_58 ?_
            refine V_i2l C dX4_birdsAndBeasts_59 ?_
            refine V_goto C 66 dX4_birdsAndBeasts_60 (by decide) ?_
            cases hm
            exact hR _ _ dX4_birdsAndBeasts_66
          · have hm := ite_f c_7 hm
            refine V_iload C 0 dX4_birdsAndBeasts_63 rfl ?_
            refine V_i2l C dX4_birdsAndBeasts_65 ?_
            cases hm
            exact hR _ _ dX4_birdsAndBeasts_66
      · have hm := ite_f c_4 hm
        refine V_ldc2 C (v := (-1000000000000005 : Int64)) mX4_birdsAndBeasts_1 dX4_birdsAndBeasts_30 ?_
        cases hm
        exact hR _ _ dX4_birdsAndBeasts_33
  · have hm := ite_f c_1 hm
    refine V_ldc2 C (v := (-1000000000000005 : Int64)) mX4_birdsAndBeasts_1 dX4_birdsAndBeasts_30 ?_
    cases hm
    exact hR _ _ dX4_birdsAndBeasts_33
theorem hdX4_birdsAndBeasts : yX4_birdsAndBeasts.cls ≠ "java/lang/invoke/MethodHandle" ∧ yX4_birdsAndBeasts.cls ≠ "java/lang/invoke/VarHandle" ∧ (parseMethodDescriptor yX4_birdsAndBeasts.desc).map (fun d => d.parameters.length) = some 4 := by decide +kernel
-- RodBoard$Problems.leftByThreeFiveSeven(IIII)J
theorem mX4_leftByThreeFiveSeven_1 : Cond.constantLong RX4 10 (-1000000000000005) ∈ wsX4_leftByThreeFiveSeven := List.mem_of_getElem? (i := 1) rfl
def fX4_leftByThreeFiveSeven_L30b (x0 : Int32) (x1 : Int32) (x2 : Int32) (x4 : Int32) : Option (((Int32)) ⊕ ((Unit) ⊕ ((Int64)))) := if x4 < (105 : Int32) then if (x4 % (3 : Int32)) = x0 then if (x4 % (5 : Int32)) = x1 then if (x4 % (7 : Int32)) = x2 then some (Sum.inr (Sum.inr x4.toInt64)) else some (Sum.inl (x4 + (1 : Int32))) else some (Sum.inl (x4 + (1 : Int32))) else some (Sum.inl (x4 + (1 : Int32))) else some (Sum.inr (Sum.inl ()))
def fX4_leftByThreeFiveSeven_L30 (x0 : Int32) (x1 : Int32) (x2 : Int32) : ((Int32)) → Option (((Int32)) ⊕ ((Unit) ⊕ ((Int64)))) := fun e => fX4_leftByThreeFiveSeven_L30b x0 x1 x2 e
set_option maxHeartbeats 4000000 in
set_option maxRecDepth 100000 in
theorem bX4_leftByThreeFiveSeven_L30 {Γ : KT} (C : CX Γ cX4_leftByThreeFiveSeven 5 wsX4_leftByThreeFiveSeven RX4 ({ frames := 0, cells := 0, slots := 0, locals := 0 } : Room)) (x0 : Int32) (x1 : Int32) (x2 : Int32) (x4 : Int32) (x : ((Int32)) ⊕ ((Unit) ⊕ ((Int64)))) (hm : fX4_leftByThreeFiveSeven_L30b x0 x1 x2 x4 = some x) (hb : (∀ (x4' : Int32), x = Sum.inl x4' → V Γ 5 0 0 30 [(0, .int x0), (1, .int x1), (2, .int x2), (4, .int x4')] [] [])) (he0 : (∀ (_ : Unit), x = Sum.inr (Sum.inl ()) → V Γ 5 0 0 72 [] [] [])) (her : (∀ (r' : Int64), x = Sum.inr (Sum.inr r') → (∀ (pc : Nat) (lv : List (Nat × Value)), decode cX4_leftByThreeFiveSeven pc = .ok (.lreturn, 1) → V Γ 5 0 0 pc lv [.long r'] []))) : V Γ 5 0 0 30 [(0, .int x0), (1, .int x1), (2, .int x2), (4, .int x4)] [] [] := by
  unfold fX4_leftByThreeFiveSeven_L30b at hm
  refine V_iload C 3 dX4_leftByThreeFiveSeven_30 rfl ?_
  refine V_bipush C (v := (105 : Int32)) dX4_leftByThreeFiveSeven_32 (by decide) ?_
  refine V_icmp_ge C 72 dX4_leftByThreeFiveSeven_34 (by decide) (fun c_5 => ?_) (fun c_5 => ?_)
  · have hm := ite_t c_5 hm
    refine V_iload C 3 dX4_leftByThreeFiveSeven_37 rfl ?_
    refine V_iconst C (v := (3 : Int32)) dX4_leftByThreeFiveSeven_39 (by decide) ?_
    refine V_iremK C (by decide) dX4_leftByThreeFiveSeven_40 ?_
    refine V_iload_n C 0 dX4_leftByThreeFiveSeven_41 rfl rfl ?_
    refine V_icmp_ne C 66 dX4_leftByThreeFiveSeven_42 (by decide) (fun c_6 => ?_) (fun c_6 => ?_)
    · have hm := ite_t c_6 hm
      refine V_iload C 3 dX4_leftByThreeFiveSeven_45 rfl ?_
      refine V_iconst C (v := (5 : Int32)) dX4_leftByThreeFiveSeven_47 (by decide) ?_
      refine V_iremK C (by decide) dX4_leftByThreeFiveSeven_48 ?_
      refine V_iload_n C 1 dX4_leftByThreeFiveSeven_49 rfl rfl ?_
      refine V_icmp_ne C 66 dX4_leftByThreeFiveSeven_50 (by decide) (fun c_7 => ?_) (fun c_7 => ?_)
      · have hm := ite_t c_7 hm
        refine V_iload C 3 dX4_leftByThreeFiveSeven_53 rfl ?_
        refine V_bipush C (v := (7 : Int32)) dX4_leftByThreeFiveSeven_55 (by decide) ?_
        refine V_iremK C (by decide) dX4_leftByThreeFiveSeven_57 ?_
        refine V_iload_n C 2 dX4_leftByThreeFiveSeven_58 rfl rfl ?_
        refine V_icmp_ne C 66 dX4_leftByThreeFiveSeven_59 (by decide) (fun c_8 => ?_) (fun c_8 => ?_)
        · have hm := ite_t c_8 hm
          refine V_iload C 3 dX4_leftByThreeFiveSeven_62 rfl ?_
          refine V_i2l C dX4_leftByThreeFiveSeven_64 ?_
          exact her x4.toInt64 (Option.some.inj hm).symm _ _ dX4_leftByThreeFiveSeven_65
        · have hm := ite_f c_8 hm
          refine V_iinc C 3 (v := x4 + (1 : Int32)) (lv' := [(4, .int (x4 + (1 : Int32))), (0, .int x0), (1, .int x1), (2, .int x2)]) dX4_leftByThreeFiveSeven_66 rfl rfl (by decide) rfl ?_
          refine V_goto C 30 dX4_leftByThreeFiveSeven_69 (by decide) ?_
          refine V_lv [1, 2, 3, 0] rfl ?_
          exact hb (x4 + (1 : Int32)) (Option.some.inj hm).symm
      · have hm := ite_f c_7 hm
        refine V_iinc C 3 (v := x4 + (1 : Int32)) (lv' := [(4, .int (x4 + (1 : Int32))), (0, .int x0), (1, .int x1), (2, .int x2)]) dX4_leftByThreeFiveSeven_66 rfl rfl (by decide) rfl ?_
        refine V_goto C 30 dX4_leftByThreeFiveSeven_69 (by decide) ?_
        refine V_lv [1, 2, 3, 0] rfl ?_
        exact hb (x4 + (1 : Int32)) (Option.some.inj hm).symm
    · have hm := ite_f c_6 hm
      refine V_iinc C 3 (v := x4 + (1 : Int32)) (lv' := [(4, .int (x4 + (1 : Int32))), (0, .int x0), (1, .int x1), (2, .int x2)]) dX4_leftByThreeFiveSeven_66 rfl rfl (by decide) rfl ?_
      refine V_goto C 30 dX4_leftByThreeFiveSeven_69 (by decide) ?_
      refine V_lv [1, 2, 3, 0] rfl ?_
      exact hb (x4 + (1 : Int32)) (Option.some.inj hm).symm
  · have hm := ite_f c_5 hm
    refine V_lv [] rfl ?_
    exact he0 () (Option.some.inj hm).symm
theorem lX4_leftByThreeFiveSeven_L30 {Γ : KT} (C : CX Γ cX4_leftByThreeFiveSeven 5 wsX4_leftByThreeFiveSeven RX4 ({ frames := 0, cells := 0, slots := 0, locals := 0 } : Room)) (x0 : Int32) (x1 : Int32) (x2 : Int32) (x4 : Int32) (N : Nat) (e : (Unit) ⊕ ((Int64))) (hN : itr (fX4_leftByThreeFiveSeven_L30 x0 x1 x2) N x4 = some e) (he0 : (∀ (_ : Unit), e = Sum.inl () → V Γ 5 0 0 72 [] [] [])) (her : (∀ (r' : Int64), e = Sum.inr r' → (∀ (pc : Nat) (lv : List (Nat × Value)), decode cX4_leftByThreeFiveSeven pc = .ok (.lreturn, 1) → V Γ 5 0 0 pc lv [.long r'] []))) : V Γ 5 0 0 30 [(0, .int x0), (1, .int x1), (2, .int x2), (4, .int x4)] [] [] := by
  induction N generalizing x4 with
  | zero => exact absurd hN (fun h => itr_0 h)
  | succ N ih =>
    obtain ⟨x, hx, hN⟩ := itr_s hN
    refine bX4_leftByThreeFiveSeven_L30 C x0 x1 x2 x4 x hx (fun x4' h => ih x4' (by subst h; exact hN)) (fun _ h => he0 () (by subst h; exact (Option.some.inj hN).symm)) (fun y0 h => her y0 (by subst h; exact (Option.some.inj hN).symm))
def fX4_leftByThreeFiveSeven (p0 : Int32) (p1 : Int32) (p2 : Int32) (p3 : Int32) : Option ((Int64)) := if p0 < (3 : Int32) then if p1 < (5 : Int32) then if p2 < (7 : Int32) then if p3 = (1 : Int32) then some (0 : Int64) else Option.bind (itr (fX4_leftByThreeFiveSeven_L30 p0 p1 p2) KF (0 : Int32)) (Sum.elim (fun (_ : Unit) => some (-1000000000000005 : Int64)) (fun rr_11 => some rr_11)) else some (-1000000000000005 : Int64) else some (-1000000000000005 : Int64) else some (-1000000000000005 : Int64)
set_option maxHeartbeats 4000000 in
set_option maxRecDepth 100000 in
theorem kX4_leftByThreeFiveSeven {l : Launch} (p0 : Int32) (p1 : Int32) (p2 : Int32) (p3 : Int32) (r : Int64) (hm : fX4_leftByThreeFiveSeven p0 p1 p2 p3 = some r) : CtL l yX4_leftByThreeFiveSeven wsX4_leftByThreeFiveSeven ({ frames := 0, cells := 0, slots := 0, locals := 0 } : Room) [.int p0, .int p1, .int p2, .int p3] [] r [] := by
  refine CtL_of (cc := cX4_leftByThreeFiveSeven) (maxL := 5) (own := RX4) rfl (by decide) rfl (lv0 := [(0, .int p0), (1, .int p1), (2, .int p2), (3, .int p3)]) rfl (Nat.le_of_ble_eq_true rfl) (fun Γ hL C hR => ?_)
  subst hL
  unfold fX4_leftByThreeFiveSeven at hm
  refine V_iload_n C 0 dX4_leftByThreeFiveSeven_0 rfl rfl ?_
  refine V_iconst C (v := (3 : Int32)) dX4_leftByThreeFiveSeven_1 (by decide) ?_
  refine V_icmp_ge C 16 dX4_leftByThreeFiveSeven_2 (by decide) (fun c_1 => ?_) (fun c_1 => ?_)
  · have hm := ite_t c_1 hm
    refine V_iload_n C 1 dX4_leftByThreeFiveSeven_5 rfl rfl ?_
    refine V_iconst C (v := (5 : Int32)) dX4_leftByThreeFiveSeven_6 (by decide) ?_
    refine V_icmp_ge C 16 dX4_leftByThreeFiveSeven_7 (by decide) (fun c_2 => ?_) (fun c_2 => ?_)
    · have hm := ite_t c_2 hm
      refine V_iload_n C 2 dX4_leftByThreeFiveSeven_10 rfl rfl ?_
      refine V_bipush C (v := (7 : Int32)) dX4_leftByThreeFiveSeven_11 (by decide) ?_
      refine V_icmp_lt C 20 dX4_leftByThreeFiveSeven_13 (by decide) (fun c_3 => ?_) (fun c_3 => ?_)
      · have hm := ite_t c_3 hm
        refine V_iload_n C 3 dX4_leftByThreeFiveSeven_20 rfl rfl ?_
        refine V_iconst C (v := (1 : Int32)) dX4_leftByThreeFiveSeven_21 (by decide) ?_
        refine V_icmp_ne C 27 dX4_leftByThreeFiveSeven_22 (by decide) (fun c_4 => ?_) (fun c_4 => ?_)
        · have hm := ite_t c_4 hm
          refine V_lconst C (v := (0 : Int64)) dX4_leftByThreeFiveSeven_25 (by decide) ?_
          cases hm
          exact hR _ _ dX4_leftByThreeFiveSeven_26
        · have hm := ite_f c_4 hm
          refine V_iconst C (v := (0 : Int32)) dX4_leftByThreeFiveSeven_27 (by decide) ?_
          refine V_istore C (lv' := [(4, .int (0 : Int32)), (0, .int p0), (1, .int p1), (2, .int p2), (3, .int p3)]) dX4_leftByThreeFiveSeven_28 (by decide) rfl ?_
          obtain ⟨e_9, hE_10, hm⟩ := bnd hm
          refine V_lv [1, 2, 3, 0] rfl ?_
          refine lX4_leftByThreeFiveSeven_L30 C p0 p1 p2 (0 : Int32) KF _ hE_10 ?_ ?_
          · intro _ hq
            subst hq
            -- exit
            dsimp only [Sum.elim_inl, Sum.elim_inr, un2, un3, un4, un5, un6, un7, un8, un9, un10, un11] at hm
            refine V_ldc2 C (v := (-1000000000000005 : Int64)) mX4_leftByThreeFiveSeven_1 dX4_leftByThreeFiveSeven_72 ?_
            cases hm
            exact hR _ _ dX4_leftByThreeFiveSeven_75
          · intro rr_11 hq
            subst hq
            dsimp only [Sum.elim_inl, Sum.elim_inr, un2, un3, un4, un5, un6, un7, un8, un9, un10, un11] at hm
            cases hm
            exact hR
      · have hm := ite_f c_3 hm
        refine V_ldc2 C (v := (-1000000000000005 : Int64)) mX4_leftByThreeFiveSeven_1 dX4_leftByThreeFiveSeven_16 ?_
        cases hm
        exact hR _ _ dX4_leftByThreeFiveSeven_19
    · have hm := ite_f c_2 hm
      refine V_ldc2 C (v := (-1000000000000005 : Int64)) mX4_leftByThreeFiveSeven_1 dX4_leftByThreeFiveSeven_16 ?_
      cases hm
      exact hR _ _ dX4_leftByThreeFiveSeven_19
  · have hm := ite_f c_1 hm
    refine V_ldc2 C (v := (-1000000000000005 : Int64)) mX4_leftByThreeFiveSeven_1 dX4_leftByThreeFiveSeven_16 ?_
    cases hm
    exact hR _ _ dX4_leftByThreeFiveSeven_19
theorem hdX4_leftByThreeFiveSeven : yX4_leftByThreeFiveSeven.cls ≠ "java/lang/invoke/MethodHandle" ∧ yX4_leftByThreeFiveSeven.cls ≠ "java/lang/invoke/VarHandle" ∧ (parseMethodDescriptor yX4_leftByThreeFiveSeven.desc).map (fun d => d.parameters.length) = some 4 := by decide +kernel
-- RodBoard$Problems.boughtTogether(IIIII)J
theorem mX4_boughtTogether_1 : Cond.constantLong RX4 10 (-1000000000000005) ∈ wsX4_boughtTogether := List.mem_of_getElem? (i := 1) rfl
def fX4_boughtTogether (p0 : Int32) (p1 : Int32) (p2 : Int32) (p3 : Int32) (p4 : Int32) : Option ((Int64)) := if (0 : Int32) < (p0 - p2) then Option.bind (rmI (p1 + p3) (p0 - p2)) (fun v_2 => if v_2 = (0 : Int32) then Option.bind (dvI (p1 + p3) (p0 - p2)) (fun v_4 => if p4 = (0 : Int32) then some v_4.toInt64 else some ((v_4.toInt64 * p0.toInt64) - p1.toInt64)) else some (-1000000000000005 : Int64)) else some (-1000000000000005 : Int64)
set_option maxHeartbeats 4000000 in
set_option maxRecDepth 100000 in
theorem kX4_boughtTogether {l : Launch} (p0 : Int32) (p1 : Int32) (p2 : Int32) (p3 : Int32) (p4 : Int32) (r : Int64) (hm : fX4_boughtTogether p0 p1 p2 p3 p4 = some r) : CtL l yX4_boughtTogether wsX4_boughtTogether ({ frames := 0, cells := 0, slots := 0, locals := 0 } : Room) [.int p0, .int p1, .int p2, .int p3, .int p4] [] r [] := by
  refine CtL_of (cc := cX4_boughtTogether) (maxL := 8) (own := RX4) rfl (by decide) rfl (lv0 := [(0, .int p0), (1, .int p1), (2, .int p2), (3, .int p3), (4, .int p4)]) rfl (Nat.le_of_ble_eq_true rfl) (fun Γ hL C hR => ?_)
  subst hL
  unfold fX4_boughtTogether at hm
  refine V_iload_n C 0 dX4_boughtTogether_0 rfl rfl ?_
  refine V_iload_n C 2 dX4_boughtTogether_1 rfl rfl ?_
  refine V_isub C dX4_boughtTogether_2 ?_
  refine V_istore C (lv' := [(5, .int (p0 - p2)), (0, .int p0), (1, .int p1), (2, .int p2), (3, .int p3), (4, .int p4)]) dX4_boughtTogether_3 (by decide) rfl ?_
  refine V_iload C 0 dX4_boughtTogether_5 rfl ?_
  refine V_if_le C 19 dX4_boughtTogether_7 (by decide) (fun c_1 => ?_) (fun c_1 => ?_)
  · have hm := ite_t c_1 hm
    refine V_iload_n C 2 dX4_boughtTogether_10 rfl rfl ?_
    refine V_iload_n C 4 dX4_boughtTogether_11 rfl rfl ?_
    refine V_iadd C dX4_boughtTogether_12 ?_
    refine V_iload C 0 dX4_boughtTogether_13 rfl ?_
    obtain ⟨v_2, hv_2, hm⟩ := bnd hm
    refine V_irem C hv_2 dX4_boughtTogether_15 ?_
    refine V_if_eq C 23 dX4_boughtTogether_16 (by decide) (fun c_3 => ?_) (fun c_3 => ?_)
    · have hm := ite_t c_3 hm
      refine V_iload_n C 2 dX4_boughtTogether_23 rfl rfl ?_
      refine V_iload_n C 4 dX4_boughtTogether_24 rfl rfl ?_
      refine V_iadd C dX4_boughtTogether_25 ?_
      refine V_iload C 0 dX4_boughtTogether_26 rfl ?_
      obtain ⟨v_4, hv_4, hm⟩ := bnd hm
      refine V_idiv C hv_4 dX4_boughtTogether_28 ?_
      refine V_i2l C dX4_boughtTogether_29 ?_
      refine V_lstore C (lv' := [(6, .long v_4.toInt64), (5, .int (p0 - p2)), (0, .int p0), (1, .int p1), (2, .int p2), (3, .int p3), (4, .int p4)]) dX4_boughtTogether_30 (by decide) rfl ?_
      refine V_iload C 6 dX4_boughtTogether_32 rfl ?_
      refine V_if_ne C 42 dX4_boughtTogether_34 (by decide) (fun c_5 => ?_) (fun c_5 => ?_)
      · have hm := ite_t c_5 hm
        refine V_lload C 0 dX4_boughtTogether_37 rfl ?_
        refine V_goto C 50 dX4_boughtTogether_39 (by decide) ?_
        cases hm
        exact hR _ _ dX4_boughtTogether_50
      · have hm := ite_f c_5 hm
        refine V_lload C 0 dX4_boughtTogether_42 rfl ?_
        refine V_iload_n C 2 dX4_boughtTogether_44 rfl rfl ?_
        refine V_i2l C dX4_boughtTogether_45 ?_
        refine V_lmul C dX4_boughtTogether_46 ?_
        refine V_iload_n C 3 dX4_boughtTogether_47 rfl rfl ?_
        refine V_i2l C dX4_boughtTogether_48 ?_
        refine V_lsub C dX4_boughtTogether_49 ?_
        cases hm
        exact hR _ _ dX4_boughtTogether_50
    · have hm := ite_f c_3 hm
      refine V_ldc2 C (v := (-1000000000000005 : Int64)) mX4_boughtTogether_1 dX4_boughtTogether_19 ?_
      cases hm
      exact hR _ _ dX4_boughtTogether_22
  · have hm := ite_f c_1 hm
    refine V_ldc2 C (v := (-1000000000000005 : Int64)) mX4_boughtTogether_1 dX4_boughtTogether_19 ?_
    cases hm
    exact hR _ _ dX4_boughtTogether_22
theorem hdX4_boughtTogether : yX4_boughtTogether.cls ≠ "java/lang/invoke/MethodHandle" ∧ yX4_boughtTogether.cls ≠ "java/lang/invoke/VarHandle" ∧ (parseMethodDescriptor yX4_boughtTogether.desc).map (fun d => d.parameters.length) = some 5 := by decide +kernel
