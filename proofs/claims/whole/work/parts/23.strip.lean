-- RodBoard$Strip.size()I
theorem uX6_size_X6 : ∀ w ∈ wsX60, w ∈ wsX6_size := fun _ h => List.mem_cons_of_mem _ (List.mem_append_right _ h)
theorem mX6_size_1 : Cond.fieldLink RX6 21 "RodBoard$Strip" "used" "I" ∈ wsX6_size := List.mem_of_getElem? (i := 1) rfl
def fX6_size (s_used : Int32) : Option ((Int32)) := some s_used
set_option maxHeartbeats 4000000 in
set_option maxRecDepth 100000 in
theorem kX6_size {l : Launch} (h0 : Nat) (a_s_sizes : Nat) (a_s_ways : Nat) (a_s_layouts : Nat) (s_used : Int32) (s_sizes : Nat → Int32) (s_ways : Nat → Int32) (s_layouts : Nat → Int32) (r : Int32) (hm : fX6_size s_used = some r) : CtI l yX6_size wsX6_size ({ frames := 0, cells := 0, slots := 0, locals := 0 } : Room) [.ref h0] [(h0, eO 4 [.ref a_s_sizes, .ref a_s_ways, .ref a_s_layouts, .int s_used]), (a_s_sizes, eI 12 s_sizes), (a_s_ways, eI 12 s_ways), (a_s_layouts, eI 169 s_layouts)] r [(h0, eO 4 [.ref a_s_sizes, .ref a_s_ways, .ref a_s_layouts, .int s_used]), (a_s_sizes, eI 12 s_sizes), (a_s_ways, eI 12 s_ways), (a_s_layouts, eI 169 s_layouts)] := by
  refine CtI_of (cc := cX6_size) (maxL := 1) (ty := .int) (own := RX6) rfl (by decide) rfl (lv0 := [(0, .ref h0)]) rfl (Nat.le_of_ble_eq_true rfl) (fun Γ hL C hR => ?_)
  subst hL
  unfold fX6_size at hm
  refine V_aload_n C 0 dX6_size_0 rfl rfl ?_
  refine V_get C uX6_size_X6 0 3 rfl rfl (by decide) mX6_size_1 rfl dX6_size_1 ?_
  cases hm
  exact hR _ _ rfl dX6_size_4
theorem hdX6_size : yX6_size.cls = RX6 ∧ yX6_size.cls ≠ "java/lang/invoke/MethodHandle" ∧ yX6_size.cls ≠ "java/lang/invoke/VarHandle" ∧ (parseMethodDescriptor yX6_size.desc).map (fun d => d.parameters.length) = some 0 := by decide +kernel
-- RodBoard$Strip.clear()V
theorem uX6_clear_X6 : ∀ w ∈ wsX60, w ∈ wsX6_clear := fun _ h => List.mem_cons_of_mem _ (List.mem_append_right _ h)
theorem mX6_clear_1 : Cond.fieldLink RX6 21 "RodBoard$Strip" "used" "I" ∈ wsX6_clear := List.mem_of_getElem? (i := 1) rfl
def fX6_clear (s_used : Int32) : Option ((Int32)) := some (0 : Int32)
set_option maxHeartbeats 4000000 in
set_option maxRecDepth 100000 in
theorem kX6_clear {l : Launch} (h0 : Nat) (a_s_sizes : Nat) (a_s_ways : Nat) (a_s_layouts : Nat) (s_used : Int32) (s_sizes : Nat → Int32) (s_ways : Nat → Int32) (s_layouts : Nat → Int32) (o_s_used : Int32) (hm : fX6_clear s_used = some o_s_used) : CtV l yX6_clear wsX6_clear ({ frames := 0, cells := 0, slots := 0, locals := 0 } : Room) [.ref h0] [(h0, eO 4 [.ref a_s_sizes, .ref a_s_ways, .ref a_s_layouts, .int s_used]), (a_s_sizes, eI 12 s_sizes), (a_s_ways, eI 12 s_ways), (a_s_layouts, eI 169 s_layouts)] [(h0, eO 4 [.ref a_s_sizes, .ref a_s_ways, .ref a_s_layouts, .int o_s_used]), (a_s_sizes, eI 12 s_sizes), (a_s_ways, eI 12 s_ways), (a_s_layouts, eI 169 s_layouts)] := by
  refine CtV_of (cc := cX6_clear) (maxL := 1) (own := RX6) rfl (by decide) rfl (lv0 := [(0, .ref h0)]) rfl (Nat.le_of_ble_eq_true rfl) (fun Γ hL C hR => ?_)
  subst hL
  unfold fX6_clear at hm
  refine V_aload_n C 0 dX6_clear_0 rfl rfl ?_
  refine V_iconst C (v := (0 : Int32)) dX6_clear_1 (by decide) ?_
  refine V_put C (ty := .int) uX6_clear_X6 tyX6 tyX6_ok nmX6 0 3 rfl rfl (by decide) mX6_clear_1 rfl (by decide +kernel) rfl rfl (Nat.le_of_ble_eq_true rfl) dX6_clear_2 (ws' := [(h0, eO 4 [.ref a_s_sizes, .ref a_s_ways, .ref a_s_layouts, .int (0 : Int32)]), (a_s_sizes, eI 12 s_sizes), (a_s_ways, eI 12 s_ways), (a_s_layouts, eI 169 s_layouts)]) rfl ?_
  cases hm
  exact hR _ _ dX6_clear_5
theorem hdX6_clear : yX6_clear.cls = RX6 ∧ yX6_clear.cls ≠ "java/lang/invoke/MethodHandle" ∧ yX6_clear.cls ≠ "java/lang/invoke/VarHandle" ∧ (parseMethodDescriptor yX6_clear.desc).map (fun d => d.parameters.length) = some 0 := by decide +kernel
-- RodBoard$Strip.append(II)V
theorem uX6_append_X6 : ∀ w ∈ wsX60, w ∈ wsX6_append := fun _ h => List.mem_cons_of_mem _ (List.mem_append_right _ h)
theorem mX6_append_1 : Cond.fieldLink RX6 21 "RodBoard$Strip" "used" "I" ∈ wsX6_append := List.mem_of_getElem? (i := 1) rfl
theorem mX6_append_2 : Cond.fieldLink RX6 9 "RodBoard$Strip" "sizes" "[I" ∈ wsX6_append := List.mem_of_getElem? (i := 2) rfl
theorem mX6_append_3 : Cond.fieldLink RX6 15 "RodBoard$Strip" "ways" "[I" ∈ wsX6_append := List.mem_of_getElem? (i := 3) rfl
def fX6_append (p0 : Int32) (p1 : Int32) (s_used : Int32) (s_sizes : Nat → Int32) (s_ways : Nat → Int32) : Option ((Int32) × (Nat → Int32) × (Nat → Int32)) := if s_used < (0 : Int32) then some (s_used, s_sizes, s_ways) else if s_used < (12 : Int32) then if s_used < (12 : Int32) then Option.bind (wrI s_sizes 12 s_used p0) (fun g_4 => Option.bind (wrI s_ways 12 s_used p1) (fun g_5 => some (s_used + (1 : Int32), g_4, g_5))) else some (s_used, s_sizes, s_ways) else some (s_used, s_sizes, s_ways)
set_option maxHeartbeats 4000000 in
set_option maxRecDepth 100000 in
theorem kX6_append {l : Launch} (h0 : Nat) (a_s_sizes : Nat) (a_s_ways : Nat) (a_s_layouts : Nat) (s_used : Int32) (s_sizes : Nat → Int32) (s_ways : Nat → Int32) (s_layouts : Nat → Int32) (p0 : Int32) (p1 : Int32) (o_s_used : Int32) (o_s_sizes : Nat → Int32) (o_s_ways : Nat → Int32) (hm : fX6_append p0 p1 s_used s_sizes s_ways = some (o_s_used, o_s_sizes, o_s_ways)) : CtV l yX6_append wsX6_append ({ frames := 0, cells := 0, slots := 0, locals := 0 } : Room) [.ref h0, .int p0, .int p1] [(h0, eO 4 [.ref a_s_sizes, .ref a_s_ways, .ref a_s_layouts, .int s_used]), (a_s_sizes, eI 12 s_sizes), (a_s_ways, eI 12 s_ways), (a_s_layouts, eI 169 s_layouts)] [(h0, eO 4 [.ref a_s_sizes, .ref a_s_ways, .ref a_s_layouts, .int o_s_used]), (a_s_sizes, eI 12 o_s_sizes), (a_s_ways, eI 12 o_s_ways), (a_s_layouts, eI 169 s_layouts)] := by
  refine CtV_of (cc := cX6_append) (maxL := 3) (own := RX6) rfl (by decide) rfl (lv0 := [(0, .ref h0), (1, .int p0), (2, .int p1)]) rfl (Nat.le_of_ble_eq_true rfl) (fun Γ hL C hR => ?_)
  subst hL
  unfold fX6_append at hm
  refine V_aload_n C 0 dX6_append_0 rfl rfl ?_
  refine V_get C uX6_append_X6 0 3 rfl rfl (by decide) mX6_append_1 rfl dX6_append_1 ?_
  refine V_if_lt C 31 dX6_append_4 (by decide) (fun c_1 => ?_) (fun c_1 => ?_)
  · have hm := ite_t c_1 hm
    cases hm
    exact hR _ _ dX6_append_31
  · have hm := ite_f c_1 hm
    refine V_aload_n C 0 dX6_append_7 rfl rfl ?_
    refine V_get C uX6_append_X6 0 3 rfl rfl (by decide) mX6_append_1 rfl dX6_append_8 ?_
    refine V_aload_n C 0 dX6_append_11 rfl rfl ?_
    refine V_get C uX6_append_X6 0 0 rfl rfl (by decide) mX6_append_2 rfl dX6_append_12 ?_
    refine V_alen C (v := (12 : Int32)) 1 0 rfl rfl rfl rfl dX6_append_15 ?_
    refine V_icmp_ge C 31 dX6_append_16 (by decide) (fun c_2 => ?_) (fun c_2 => ?_)
    · have hm := ite_t c_2 hm
      refine V_aload_n C 0 dX6_append_19 rfl rfl ?_
      refine V_get C uX6_append_X6 0 3 rfl rfl (by decide) mX6_append_1 rfl dX6_append_20 ?_
      refine V_aload_n C 0 dX6_append_23 rfl rfl ?_
      refine V_get C uX6_append_X6 0 1 rfl rfl (by decide) mX6_append_3 rfl dX6_append_24 ?_
      refine V_alen C (v := (12 : Int32)) 2 0 rfl rfl rfl rfl dX6_append_27 ?_
      refine V_icmp_lt C 32 dX6_append_28 (by decide) (fun c_3 => ?_) (fun c_3 => ?_)
      · have hm := ite_t c_3 hm
        refine V_aload_n C 0 dX6_append_32 rfl rfl ?_
        refine V_get C uX6_append_X6 0 0 rfl rfl (by decide) mX6_append_2 rfl dX6_append_33 ?_
        refine V_aload_n C 0 dX6_append_36 rfl rfl ?_
        refine V_get C uX6_append_X6 0 3 rfl rfl (by decide) mX6_append_1 rfl dX6_append_37 ?_
        refine V_iload_n C 1 dX6_append_40 rfl rfl ?_
        obtain ⟨g_4, hg_4, hm⟩ := bnd hm
        refine V_iast C 1 rfl hg_4 dX6_append_41 (ws' := [(h0, eO 4 [.ref a_s_sizes, .ref a_s_ways, .ref a_s_layouts, .int s_used]), (a_s_sizes, eI 12 g_4), (a_s_ways, eI 12 s_ways), (a_s_layouts, eI 169 s_layouts)]) rfl ?_
        refine V_aload_n C 0 dX6_append_42 rfl rfl ?_
        refine V_get C uX6_append_X6 0 1 rfl rfl (by decide) mX6_append_3 rfl dX6_append_43 ?_
        refine V_aload_n C 0 dX6_append_46 rfl rfl ?_
        refine V_get C uX6_append_X6 0 3 rfl rfl (by decide) mX6_append_1 rfl dX6_append_47 ?_
        refine V_iload_n C 2 dX6_append_50 rfl rfl ?_
        obtain ⟨g_5, hg_5, hm⟩ := bnd hm
        refine V_iast C 2 rfl hg_5 dX6_append_51 (ws' := [(h0, eO 4 [.ref a_s_sizes, .ref a_s_ways, .ref a_s_layouts, .int s_used]), (a_s_sizes, eI 12 g_4), (a_s_ways, eI 12 g_5), (a_s_layouts, eI 169 s_layouts)]) rfl ?_
        refine V_aload_n C 0 dX6_append_52 rfl rfl ?_
        refine V_dup C dX6_append_53 rfl ?_
        refine V_get C uX6_append_X6 0 3 rfl rfl (by decide) mX6_append_1 rfl dX6_append_54 ?_
        refine V_iconst C (v := (1 : Int32)) dX6_append_57 (by decide) ?_
        refine V_iadd C dX6_append_58 ?_
        refine V_put C (ty := .int) uX6_append_X6 tyX6 tyX6_ok nmX6 0 3 rfl rfl (by decide) mX6_append_1 rfl (by decide +kernel) rfl rfl (Nat.le_of_ble_eq_true rfl) dX6_append_59 (ws' := [(h0, eO 4 [.ref a_s_sizes, .ref a_s_ways, .ref a_s_layouts, .int (s_used + (1 : Int32))]), (a_s_sizes, eI 12 g_4), (a_s_ways, eI 12 g_5), (a_s_layouts, eI 169 s_layouts)]) rfl ?_
        cases hm
        exact hR _ _ dX6_append_62
      · have hm := ite_f c_3 hm
        cases hm
        exact hR _ _ dX6_append_31
    · have hm := ite_f c_2 hm
      cases hm
      exact hR _ _ dX6_append_31
theorem hdX6_append : yX6_append.cls = RX6 ∧ yX6_append.cls ≠ "java/lang/invoke/MethodHandle" ∧ yX6_append.cls ≠ "java/lang/invoke/VarHandle" ∧ (parseMethodDescriptor yX6_append.desc).map (fun d => d.parameters.length) = some 2 := by decide +kernel
-- RodBoard$Strip.show(J)V
def fX6_show_L7b (x1 : Int64) (x3 : Int32) (s_used : Int32) (s_sizes : Nat → Int32) (s_ways : Nat → Int32) : Option (((Int32) × (Int32) × (Nat → Int32) × (Nat → Int32)) ⊕ ((Int32) × (Nat → Int32) × (Nat → Int32))) := if x3 < (0 : Int32) then some (Sum.inr (s_used, s_sizes, s_ways)) else Option.bind (fX5_digit x1 x3) (fun r_4 => if r_4 = (0 : Int32) then some (Sum.inl (x3 + (-1 : Int32), s_used, s_sizes, s_ways)) else Option.bind (fX5_way x3) (fun r_7 => bn3 (fX6_append r_4 r_7 s_used s_sizes s_ways) (fun w_9 w_10 w_11 => some (Sum.inl (x3 + (-1 : Int32), w_9, w_10, w_11)))))
def fX6_show_L7 (x1 : Int64) : ((Int32) × (Int32) × (Nat → Int32) × (Nat → Int32)) → Option (((Int32) × (Int32) × (Nat → Int32) × (Nat → Int32)) ⊕ ((Int32) × (Nat → Int32) × (Nat → Int32))) := fun e => fX6_show_L7b x1 e.1 e.2.1 e.2.2.1 e.2.2.2
set_option maxHeartbeats 4000000 in
set_option maxRecDepth 100000 in
theorem bX6_show_L7 {Γ : KT} (C : CX Γ cX6_show 5 wsX6_show RX6 ({ frames := 2, cells := 0, slots := 0, locals := 44 } : Room)) (h0 : Nat) (a_s_sizes : Nat) (a_s_ways : Nat) (a_s_layouts : Nat) (x1 : Int64) (s_layouts : Nat → Int32) (x3 : Int32) (s_used : Int32) (s_sizes : Nat → Int32) (s_ways : Nat → Int32) (x : ((Int32) × (Int32) × (Nat → Int32) × (Nat → Int32)) ⊕ ((Int32) × (Nat → Int32) × (Nat → Int32))) (hm : fX6_show_L7b x1 x3 s_used s_sizes s_ways = some x) (hb : (∀ (x3' : Int32) (s_used' : Int32) (s_sizes' : Nat → Int32) (s_ways' : Nat → Int32), x = Sum.inl (x3', s_used', s_sizes', s_ways') → V Γ 5 0 0 7 [(0, .ref h0), (1, .long x1), (3, .int x3')] [] [(h0, eO 4 [.ref a_s_sizes, .ref a_s_ways, .ref a_s_layouts, .int s_used']), (a_s_sizes, eI 12 s_sizes'), (a_s_ways, eI 12 s_ways'), (a_s_layouts, eI 169 s_layouts)])) (he0 : (∀ (s_used' : Int32) (s_sizes' : Nat → Int32) (s_ways' : Nat → Int32), x = Sum.inr (s_used', s_sizes', s_ways') → V Γ 5 0 0 39 [] [] [(h0, eO 4 [.ref a_s_sizes, .ref a_s_ways, .ref a_s_layouts, .int s_used']), (a_s_sizes, eI 12 s_sizes'), (a_s_ways, eI 12 s_ways'), (a_s_layouts, eI 169 s_layouts)])) : V Γ 5 0 0 7 [(0, .ref h0), (1, .long x1), (3, .int x3)] [] [(h0, eO 4 [.ref a_s_sizes, .ref a_s_ways, .ref a_s_layouts, .int s_used]), (a_s_sizes, eI 12 s_sizes), (a_s_ways, eI 12 s_ways), (a_s_layouts, eI 169 s_layouts)] := by
  unfold fX6_show_L7b at hm
  refine V_iload_n C 2 dX6_show_7 rfl rfl ?_
  refine V_if_lt C 39 dX6_show_8 (by decide) (fun c_3 => ?_) (fun c_3 => ?_)
  · have hm := ite_t c_3 hm
    refine V_lv [] rfl ?_
    exact he0 s_used s_sizes s_ways (Option.some.inj hm).symm
  · have hm := ite_f c_3 hm
    refine V_lload_n C 1 dX6_show_11 rfl rfl ?_
    refine V_iload_n C 2 dX6_show_12 rfl rfl ?_
    obtain ⟨r_4, hc_5, hm⟩ := bnd hm
    refine V_callSI C (As := [.long x1, .int x3]) (wr := [(h0, eO 4 [.ref a_s_sizes, .ref a_s_ways, .ref a_s_layouts, .int s_used]), (a_s_sizes, eI 12 s_sizes), (a_s_ways, eI 12 s_ways), (a_s_layouts, eI 169 s_layouts)]) (ws2 := [(h0, eO 4 [.ref a_s_sizes, .ref a_s_ways, .ref a_s_layouts, .int s_used]), (a_s_sizes, eI 12 s_sizes), (a_s_ways, eI 12 s_ways), (a_s_layouts, eI 169 s_layouts)]) (kX5_digit x1 x3 r_4 hc_5) gX6_show_X5_digit rfl ⟨rfl, rfl⟩ hdX5_digit ⟨Nat.le_of_ble_eq_true rfl, Nat.le_of_ble_eq_true rfl⟩ ⟨Nat.zero_le _, Nat.zero_le _⟩ [] [0, 1, 2, 3] [0, 1, 2, 3] rfl rfl ⟨rfl, rfl, rfl⟩ (by decide) rfl rfl (Nat.le_of_ble_eq_true rfl) dX6_show_13 ?_
    refine V_istore C (lv' := [(4, .int r_4), (0, .ref h0), (1, .long x1), (3, .int x3)]) dX6_show_16 (by decide) rfl ?_
    refine V_iload C 0 dX6_show_18 rfl ?_
    refine V_if_eq C 33 dX6_show_20 (by decide) (fun c_6 => ?_) (fun c_6 => ?_)
    · have hm := ite_t c_6 hm
      refine V_iinc C 3 (v := x3 + (-1 : Int32)) (lv' := [(3, .int (x3 + (-1 : Int32))), (4, .int r_4), (0, .ref h0), (1, .long x1)]) dX6_show_33 rfl rfl (by decide) rfl ?_
      refine V_goto C 7 dX6_show_36 (by decide) ?_
      refine V_lv [2, 3, 0] rfl ?_
      exact hb (x3 + (-1 : Int32)) s_used s_sizes s_ways (Option.some.inj hm).symm
    · have hm := ite_f c_6 hm
      refine V_aload_n C 1 dX6_show_23 rfl rfl ?_
      refine V_iload C 0 dX6_show_24 rfl ?_
      refine V_iload_n C 3 dX6_show_26 rfl rfl ?_
      obtain ⟨r_7, hc_8, hm⟩ := bnd hm
      refine V_callSI C (As := [.int x3]) (wr := [(h0, eO 4 [.ref a_s_sizes, .ref a_s_ways, .ref a_s_layouts, .int s_used]), (a_s_sizes, eI 12 s_sizes), (a_s_ways, eI 12 s_ways), (a_s_layouts, eI 169 s_layouts)]) (ws2 := [(h0, eO 4 [.ref a_s_sizes, .ref a_s_ways, .ref a_s_layouts, .int s_used]), (a_s_sizes, eI 12 s_sizes), (a_s_ways, eI 12 s_ways), (a_s_layouts, eI 169 s_layouts)]) (kX5_way x3 r_7 hc_8) gX6_show_X5_way rfl ⟨rfl, rfl⟩ hdX5_way ⟨Nat.le_of_ble_eq_true rfl, Nat.le_of_ble_eq_true rfl⟩ ⟨Nat.zero_le _, Nat.zero_le _⟩ [] [0, 1, 2, 3] [0, 1, 2, 3] rfl rfl ⟨rfl, rfl, rfl⟩ (by decide) rfl rfl (Nat.le_of_ble_eq_true rfl) dX6_show_27 ?_
      obtain ⟨w_9, w_10, w_11, hc_12, hm⟩ := bd3 hm
      refine V_callVV C (As := [.int r_4, .int r_7]) (wr := []) (ws2 := [(h0, eO 4 [.ref a_s_sizes, .ref a_s_ways, .ref a_s_layouts, .int w_9]), (a_s_sizes, eI 12 w_10), (a_s_ways, eI 12 w_11), (a_s_layouts, eI 169 s_layouts)]) (kX6_append h0 a_s_sizes a_s_ways a_s_layouts s_used s_sizes s_ways s_layouts r_4 r_7 w_9 w_10 w_11 hc_12) gX6_show_X6_append rfl ⟨rfl, rfl⟩ hdX6_append ⟨Nat.le_of_ble_eq_true rfl, Nat.le_of_ble_eq_true rfl⟩ ⟨Nat.zero_le _, Nat.zero_le _⟩ 0 rfl rfl [0, 1, 2, 3] [] [0, 1, 2, 3] rfl rfl ⟨rfl, rfl, rfl⟩ (by decide) rfl rfl (Nat.le_of_ble_eq_true rfl) dX6_show_30 ?_
      refine V_iinc C 3 (v := x3 + (-1 : Int32)) (lv' := [(3, .int (x3 + (-1 : Int32))), (4, .int r_4), (0, .ref h0), (1, .long x1)]) dX6_show_33 rfl rfl (by decide) rfl ?_
      refine V_goto C 7 dX6_show_36 (by decide) ?_
      refine V_lv [2, 3, 0] rfl ?_
      exact hb (x3 + (-1 : Int32)) w_9 w_10 w_11 (Option.some.inj hm).symm
theorem lX6_show_L7 {Γ : KT} (C : CX Γ cX6_show 5 wsX6_show RX6 ({ frames := 2, cells := 0, slots := 0, locals := 44 } : Room)) (h0 : Nat) (a_s_sizes : Nat) (a_s_ways : Nat) (a_s_layouts : Nat) (x1 : Int64) (s_layouts : Nat → Int32) (x3 : Int32) (s_used : Int32) (s_sizes : Nat → Int32) (s_ways : Nat → Int32) (N : Nat) (e : (Int32) × (Nat → Int32) × (Nat → Int32)) (hN : itr (fX6_show_L7 x1) N (x3, s_used, s_sizes, s_ways) = some e) (he0 : (∀ (s_used' : Int32) (s_sizes' : Nat → Int32) (s_ways' : Nat → Int32), e = (s_used', s_sizes', s_ways') → V Γ 5 0 0 39 [] [] [(h0, eO 4 [.ref a_s_sizes, .ref a_s_ways, .ref a_s_layouts, .int s_used']), (a_s_sizes, eI 12 s_sizes'), (a_s_ways, eI 12 s_ways'), (a_s_layouts, eI 169 s_layouts)])) : V Γ 5 0 0 7 [(0, .ref h0), (1, .long x1), (3, .int x3)] [] [(h0, eO 4 [.ref a_s_sizes, .ref a_s_ways, .ref a_s_layouts, .int s_used]), (a_s_sizes, eI 12 s_sizes), (a_s_ways, eI 12 s_ways), (a_s_layouts, eI 169 s_layouts)] := by
  induction N generalizing x3 s_used s_sizes s_ways with
  | zero => exact absurd hN (fun h => itr_0 h)
  | succ N ih =>
    obtain ⟨x, hx, hN⟩ := itr_s hN
    refine bX6_show_L7 C h0 a_s_sizes a_s_ways a_s_layouts x1 s_layouts x3 s_used s_sizes s_ways x hx (fun x3' s_used' s_sizes' s_ways' h => ih x3' s_used' s_sizes' s_ways' (by subst h; exact hN)) (fun y0 y1 y2 h => he0 y0 y1 y2 (by subst h; exact (Option.some.inj hN).symm))
def fX6_show (p0 : Int64) (s_used : Int32) (s_sizes : Nat → Int32) (s_ways : Nat → Int32) : Option ((Int32) × (Nat → Int32) × (Nat → Int32)) := Option.bind (fX6_clear s_used) (fun w_1 => bn3 (itr (fX6_show_L7 p0) KF ((11 : Int32), w_1, s_sizes, s_ways)) (fun u_15 u_16 u_17 => some (u_15, u_16, u_17)))
set_option maxHeartbeats 4000000 in
set_option maxRecDepth 100000 in
theorem kX6_show {l : Launch} (h0 : Nat) (a_s_sizes : Nat) (a_s_ways : Nat) (a_s_layouts : Nat) (s_used : Int32) (s_sizes : Nat → Int32) (s_ways : Nat → Int32) (s_layouts : Nat → Int32) (p0 : Int64) (o_s_used : Int32) (o_s_sizes : Nat → Int32) (o_s_ways : Nat → Int32) (hm : fX6_show p0 s_used s_sizes s_ways = some (o_s_used, o_s_sizes, o_s_ways)) : CtV l yX6_show wsX6_show ({ frames := 2, cells := 0, slots := 0, locals := 44 } : Room) [.ref h0, .long p0] [(h0, eO 4 [.ref a_s_sizes, .ref a_s_ways, .ref a_s_layouts, .int s_used]), (a_s_sizes, eI 12 s_sizes), (a_s_ways, eI 12 s_ways), (a_s_layouts, eI 169 s_layouts)] [(h0, eO 4 [.ref a_s_sizes, .ref a_s_ways, .ref a_s_layouts, .int o_s_used]), (a_s_sizes, eI 12 o_s_sizes), (a_s_ways, eI 12 o_s_ways), (a_s_layouts, eI 169 s_layouts)] := by
  refine CtV_of (cc := cX6_show) (maxL := 5) (own := RX6) rfl (by decide) rfl (lv0 := [(0, .ref h0), (1, .long p0)]) rfl (Nat.le_of_ble_eq_true rfl) (fun Γ hL C hR => ?_)
  subst hL
  unfold fX6_show at hm
  refine V_aload_n C 0 dX6_show_0 rfl rfl ?_
  obtain ⟨w_1, hc_2, hm⟩ := bnd hm
  refine V_callVV C (As := []) (wr := []) (ws2 := [(h0, eO 4 [.ref a_s_sizes, .ref a_s_ways, .ref a_s_layouts, .int w_1]), (a_s_sizes, eI 12 s_sizes), (a_s_ways, eI 12 s_ways), (a_s_layouts, eI 169 s_layouts)]) (kX6_clear h0 a_s_sizes a_s_ways a_s_layouts s_used s_sizes s_ways s_layouts w_1 hc_2) gX6_show_X6_clear rfl ⟨rfl, rfl⟩ hdX6_clear ⟨Nat.le_of_ble_eq_true rfl, Nat.le_of_ble_eq_true rfl⟩ ⟨Nat.zero_le _, Nat.zero_le _⟩ 0 rfl rfl [0, 1, 2, 3] [] [0, 1, 2, 3] rfl rfl ⟨rfl, rfl, rfl⟩ (by decide) rfl rfl (Nat.le_of_ble_eq_true rfl) dX6_show_1 ?_
  refine V_bipush C (v := (11 : Int32)) dX6_show_4 (by decide) ?_
  refine V_istore_n C (lv' := [(3, .int (11 : Int32)), (0, .ref h0), (1, .long p0)]) dX6_show_6 rfl (by decide) rfl ?_
  obtain ⟨u_15, u_16, u_17, hE_14, hm⟩ := bd3 hm
  refine V_lv [1, 2, 0] rfl ?_
  refine lX6_show_L7 C h0 a_s_sizes a_s_ways a_s_layouts p0 s_layouts (11 : Int32) w_1 s_sizes s_ways KF _ hE_14 ?_
  intro q_18 q_19 q_20 hq
  cases hq
  cases hm
  exact hR _ _ dX6_show_39
theorem hdX6_show : yX6_show.cls = RX6 ∧ yX6_show.cls ≠ "java/lang/invoke/MethodHandle" ∧ yX6_show.cls ≠ "java/lang/invoke/VarHandle" ∧ (parseMethodDescriptor yX6_show.desc).map (fun d => d.parameters.length) = some 1 := by decide +kernel
-- RodBoard$Strip.layoutsBelow(II)I
theorem uX6_layoutsBelow_X6 : ∀ w ∈ wsX60, w ∈ wsX6_layoutsBelow := fun _ h => List.mem_cons_of_mem _ (List.mem_append_right _ h)
theorem mX6_layoutsBelow_1 : Cond.fieldLink RX6 18 "RodBoard$Strip" "layouts" "[I" ∈ wsX6_layoutsBelow := List.mem_of_getElem? (i := 1) rfl
def fX6_layoutsBelow (p0 : Int32) (p1 : Int32) (s_layouts : Nat → Int32) : Option ((Int32)) := if ((p0 * (13 : Int32)) + p1) < (0 : Int32) then some (0 : Int32) else if ((p0 * (13 : Int32)) + p1) < (169 : Int32) then Option.bind (rdI s_layouts 169 ((p0 * (13 : Int32)) + p1)) (fun v_3 => some v_3) else some (0 : Int32)
set_option maxHeartbeats 4000000 in
set_option maxRecDepth 100000 in
theorem kX6_layoutsBelow {l : Launch} (h0 : Nat) (a_s_sizes : Nat) (a_s_ways : Nat) (a_s_layouts : Nat) (s_used : Int32) (s_sizes : Nat → Int32) (s_ways : Nat → Int32) (s_layouts : Nat → Int32) (p0 : Int32) (p1 : Int32) (r : Int32) (hm : fX6_layoutsBelow p0 p1 s_layouts = some r) : CtI l yX6_layoutsBelow wsX6_layoutsBelow ({ frames := 0, cells := 0, slots := 0, locals := 0 } : Room) [.ref h0, .int p0, .int p1] [(h0, eO 4 [.ref a_s_sizes, .ref a_s_ways, .ref a_s_layouts, .int s_used]), (a_s_sizes, eI 12 s_sizes), (a_s_ways, eI 12 s_ways), (a_s_layouts, eI 169 s_layouts)] r [(h0, eO 4 [.ref a_s_sizes, .ref a_s_ways, .ref a_s_layouts, .int s_used]), (a_s_sizes, eI 12 s_sizes), (a_s_ways, eI 12 s_ways), (a_s_layouts, eI 169 s_layouts)] := by
  refine CtI_of (cc := cX6_layoutsBelow) (maxL := 4) (ty := .int) (own := RX6) rfl (by decide) rfl (lv0 := [(0, .ref h0), (1, .int p0), (2, .int p1)]) rfl (Nat.le_of_ble_eq_true rfl) (fun Γ hL C hR => ?_)
  subst hL
  unfold fX6_layoutsBelow at hm
  refine V_iload_n C 1 dX6_layoutsBelow_0 rfl rfl ?_
  refine V_bipush C (v := (13 : Int32)) dX6_layoutsBelow_1 (by decide) ?_
  refine V_imul C dX6_layoutsBelow_3 ?_
  refine V_iload_n C 2 dX6_layoutsBelow_4 rfl rfl ?_
  refine V_iadd C dX6_layoutsBelow_5 ?_
  refine V_istore_n C (lv' := [(3, .int ((p0 * (13 : Int32)) + p1)), (0, .ref h0), (1, .int p0), (2, .int p1)]) dX6_layoutsBelow_6 rfl (by decide) rfl ?_
  refine V_iload_n C 0 dX6_layoutsBelow_7 rfl rfl ?_
  refine V_if_lt C 29 dX6_layoutsBelow_8 (by decide) (fun c_1 => ?_) (fun c_1 => ?_)
  · have hm := ite_t c_1 hm
    refine V_iconst C (v := (0 : Int32)) dX6_layoutsBelow_29 (by decide) ?_
    cases hm
    exact hR _ _ rfl dX6_layoutsBelow_30
  · have hm := ite_f c_1 hm
    refine V_iload_n C 0 dX6_layoutsBelow_11 rfl rfl ?_
    refine V_aload_n C 1 dX6_layoutsBelow_12 rfl rfl ?_
    refine V_get C uX6_layoutsBelow_X6 0 2 rfl rfl (by decide) mX6_layoutsBelow_1 rfl dX6_layoutsBelow_13 ?_
    refine V_alen C (v := (169 : Int32)) 3 0 rfl rfl rfl rfl dX6_layoutsBelow_16 ?_
    refine V_icmp_ge C 29 dX6_layoutsBelow_17 (by decide) (fun c_2 => ?_) (fun c_2 => ?_)
    · have hm := ite_t c_2 hm
      refine V_aload_n C 1 dX6_layoutsBelow_20 rfl rfl ?_
      refine V_get C uX6_layoutsBelow_X6 0 2 rfl rfl (by decide) mX6_layoutsBelow_1 rfl dX6_layoutsBelow_21 ?_
      refine V_iload_n C 0 dX6_layoutsBelow_24 rfl rfl ?_
      obtain ⟨v_3, hv_3, hm⟩ := bnd hm
      refine V_iald C 3 rfl hv_3 dX6_layoutsBelow_25 ?_
      refine V_goto C 30 dX6_layoutsBelow_26 (by decide) ?_
      cases hm
      exact hR _ _ rfl dX6_layoutsBelow_30
    · have hm := ite_f c_2 hm
      refine V_iconst C (v := (0 : Int32)) dX6_layoutsBelow_29 (by decide) ?_
      cases hm
      exact hR _ _ rfl dX6_layoutsBelow_30
theorem hdX6_layoutsBelow : yX6_layoutsBelow.cls = RX6 ∧ yX6_layoutsBelow.cls ≠ "java/lang/invoke/MethodHandle" ∧ yX6_layoutsBelow.cls ≠ "java/lang/invoke/VarHandle" ∧ (parseMethodDescriptor yX6_layoutsBelow.desc).map (fun d => d.parameters.length) = some 2 := by decide +kernel
-- RodBoard$Strip.layoutsWith(II)I
theorem uX6_layoutsWith_X6 : ∀ w ∈ wsX60, w ∈ wsX6_layoutsWith := fun _ h => List.mem_cons_of_mem _ (List.mem_append_right _ h)
theorem mX6_layoutsWith_1 : Cond.fieldLink RX6 15 "RodBoard$Strip" "ways" "[I" ∈ wsX6_layoutsWith := List.mem_of_getElem? (i := 1) rfl
def fX6_layoutsWith (p0 : Int32) (p1 : Int32) (s_ways : Nat → Int32) (s_layouts : Nat → Int32) : Option ((Int32)) := if p0 < (0 : Int32) then some (0 : Int32) else if p0 < (12 : Int32) then Option.bind (rdI s_ways 12 p0) (fun v_3 => Option.bind (fX5_way p1) (fun r_4 => if v_3 = r_4 then Option.bind (fX6_layoutsBelow (p0 + (1 : Int32)) p1 s_layouts) (fun r_7 => some r_7) else some (0 : Int32))) else some (0 : Int32)
set_option maxHeartbeats 4000000 in
set_option maxRecDepth 100000 in
theorem kX6_layoutsWith {l : Launch} (h0 : Nat) (a_s_sizes : Nat) (a_s_ways : Nat) (a_s_layouts : Nat) (s_used : Int32) (s_sizes : Nat → Int32) (s_ways : Nat → Int32) (s_layouts : Nat → Int32) (p0 : Int32) (p1 : Int32) (r : Int32) (hm : fX6_layoutsWith p0 p1 s_ways s_layouts = some r) : CtI l yX6_layoutsWith wsX6_layoutsWith ({ frames := 1, cells := 0, slots := 0, locals := 23 } : Room) [.ref h0, .int p0, .int p1] [(h0, eO 4 [.ref a_s_sizes, .ref a_s_ways, .ref a_s_layouts, .int s_used]), (a_s_sizes, eI 12 s_sizes), (a_s_ways, eI 12 s_ways), (a_s_layouts, eI 169 s_layouts)] r [(h0, eO 4 [.ref a_s_sizes, .ref a_s_ways, .ref a_s_layouts, .int s_used]), (a_s_sizes, eI 12 s_sizes), (a_s_ways, eI 12 s_ways), (a_s_layouts, eI 169 s_layouts)] := by
  refine CtI_of (cc := cX6_layoutsWith) (maxL := 3) (ty := .int) (own := RX6) rfl (by decide) rfl (lv0 := [(0, .ref h0), (1, .int p0), (2, .int p1)]) rfl (Nat.le_of_ble_eq_true rfl) (fun Γ hL C hR => ?_)
  subst hL
  unfold fX6_layoutsWith at hm
  refine V_iload_n C 1 dX6_layoutsWith_0 rfl rfl ?_
  refine V_if_lt C 26 dX6_layoutsWith_1 (by decide) (fun c_1 => ?_) (fun c_1 => ?_)
  · have hm := ite_t c_1 hm
    refine V_iconst C (v := (0 : Int32)) dX6_layoutsWith_26 (by decide) ?_
    cases hm
    exact hR _ _ rfl dX6_layoutsWith_27
  · have hm := ite_f c_1 hm
    refine V_iload_n C 1 dX6_layoutsWith_4 rfl rfl ?_
    refine V_aload_n C 0 dX6_layoutsWith_5 rfl rfl ?_
    refine V_get C uX6_layoutsWith_X6 0 1 rfl rfl (by decide) mX6_layoutsWith_1 rfl dX6_layoutsWith_6 ?_
    refine V_alen C (v := (12 : Int32)) 2 0 rfl rfl rfl rfl dX6_layoutsWith_9 ?_
    refine V_icmp_ge C 26 dX6_layoutsWith_10 (by decide) (fun c_2 => ?_) (fun c_2 => ?_)
    · have hm := ite_t c_2 hm
      refine V_aload_n C 0 dX6_layoutsWith_13 rfl rfl ?_
      refine V_get C uX6_layoutsWith_X6 0 1 rfl rfl (by decide) mX6_layoutsWith_1 rfl dX6_layoutsWith_14 ?_
      refine V_iload_n C 1 dX6_layoutsWith_17 rfl rfl ?_
      obtain ⟨v_3, hv_3, hm⟩ := bnd hm
      refine V_iald C 2 rfl hv_3 dX6_layoutsWith_18 ?_
      refine V_iload_n C 2 dX6_layoutsWith_19 rfl rfl ?_
      obtain ⟨r_4, hc_5, hm⟩ := bnd hm
      refine V_callSI C (As := [.int p1]) (wr := [(h0, eO 4 [.ref a_s_sizes, .ref a_s_ways, .ref a_s_layouts, .int s_used]), (a_s_sizes, eI 12 s_sizes), (a_s_ways, eI 12 s_ways), (a_s_layouts, eI 169 s_layouts)]) (ws2 := [(h0, eO 4 [.ref a_s_sizes, .ref a_s_ways, .ref a_s_layouts, .int s_used]), (a_s_sizes, eI 12 s_sizes), (a_s_ways, eI 12 s_ways), (a_s_layouts, eI 169 s_layouts)]) (kX5_way p1 r_4 hc_5) gX6_layoutsWith_X5_way rfl ⟨rfl, rfl⟩ hdX5_way ⟨Nat.le_of_ble_eq_true rfl, Nat.le_of_ble_eq_true rfl⟩ ⟨Nat.zero_le _, Nat.zero_le _⟩ [] [0, 1, 2, 3] [0, 1, 2, 3] rfl rfl ⟨rfl, rfl, rfl⟩ (by decide) rfl rfl (Nat.le_of_ble_eq_true rfl) dX6_layoutsWith_20 ?_
      refine V_icmp_eq C 28 dX6_layoutsWith_23 (by decide) (fun c_6 => ?_) (fun c_6 => ?_)
      · have hm := ite_t c_6 hm
        refine V_aload_n C 0 dX6_layoutsWith_28 rfl rfl ?_
        refine V_iload_n C 1 dX6_layoutsWith_29 rfl rfl ?_
        refine V_iconst C (v := (1 : Int32)) dX6_layoutsWith_30 (by decide) ?_
        refine V_iadd C dX6_layoutsWith_31 ?_
        refine V_iload_n C 2 dX6_layoutsWith_32 rfl rfl ?_
        obtain ⟨r_7, hc_8, hm⟩ := bnd hm
        refine V_callVI C (As := [.int (p0 + (1 : Int32)), .int p1]) (wr := []) (ws2 := [(h0, eO 4 [.ref a_s_sizes, .ref a_s_ways, .ref a_s_layouts, .int s_used]), (a_s_sizes, eI 12 s_sizes), (a_s_ways, eI 12 s_ways), (a_s_layouts, eI 169 s_layouts)]) (kX6_layoutsBelow h0 a_s_sizes a_s_ways a_s_layouts s_used s_sizes s_ways s_layouts (p0 + (1 : Int32)) p1 r_7 hc_8) gX6_layoutsWith_X6_layoutsBelow rfl ⟨rfl, rfl⟩ hdX6_layoutsBelow ⟨Nat.le_of_ble_eq_true rfl, Nat.le_of_ble_eq_true rfl⟩ ⟨Nat.zero_le _, Nat.zero_le _⟩ 0 rfl rfl [0, 1, 2, 3] [] [0, 1, 2, 3] rfl rfl ⟨rfl, rfl, rfl⟩ (by decide) rfl rfl (Nat.le_of_ble_eq_true rfl) dX6_layoutsWith_33 ?_
        cases hm
        exact hR _ _ rfl dX6_layoutsWith_36
      · have hm := ite_f c_6 hm
        refine V_iconst C (v := (0 : Int32)) dX6_layoutsWith_26 (by decide) ?_
        cases hm
        exact hR _ _ rfl dX6_layoutsWith_27
    · have hm := ite_f c_2 hm
      refine V_iconst C (v := (0 : Int32)) dX6_layoutsWith_26 (by decide) ?_
      cases hm
      exact hR _ _ rfl dX6_layoutsWith_27
theorem hdX6_layoutsWith : yX6_layoutsWith.cls = RX6 ∧ yX6_layoutsWith.cls ≠ "java/lang/invoke/MethodHandle" ∧ yX6_layoutsWith.cls ≠ "java/lang/invoke/VarHandle" ∧ (parseMethodDescriptor yX6_layoutsWith.desc).map (fun d => d.parameters.length) = some 2 := by decide +kernel
-- RodBoard$Strip.countLayouts(II)V
theorem uX6_countLayouts_X6 : ∀ w ∈ wsX60, w ∈ wsX6_countLayouts := fun _ h => List.mem_cons_of_mem _ (List.mem_append_right _ h)
theorem mX6_countLayouts_1 : Cond.fieldLink RX6 21 "RodBoard$Strip" "used" "I" ∈ wsX6_countLayouts := List.mem_of_getElem? (i := 1) rfl
theorem mX6_countLayouts_2 : Cond.fieldLink RX6 18 "RodBoard$Strip" "layouts" "[I" ∈ wsX6_countLayouts := List.mem_of_getElem? (i := 2) rfl
def fX6_countLayouts_B37 (x1 : Int32) (x2 : Int32) (x3 : Int32) (s_layouts : Nat → Int32) : Option ((Nat → Int32)) := if ((x1 * (13 : Int32)) + x2) < (0 : Int32) then some s_layouts else if ((x1 * (13 : Int32)) + x2) < (169 : Int32) then Option.bind (wrI s_layouts 169 ((x1 * (13 : Int32)) + x2) x3) (fun g_4 => some g_4) else some s_layouts
set_option maxHeartbeats 4000000 in
set_option maxRecDepth 100000 in
theorem jX6_countLayouts_B37 {Γ : KT} (C : CX Γ cX6_countLayouts 5 wsX6_countLayouts RX6 ({ frames := 2, cells := 0, slots := 0, locals := 45 } : Room)) (h0 : Nat) (a_s_sizes : Nat) (a_s_ways : Nat) (a_s_layouts : Nat) (x1 : Int32) (x2 : Int32) (x3 : Int32) (s_used : Int32) (s_sizes : Nat → Int32) (s_ways : Nat → Int32) (s_layouts : Nat → Int32) (o_s_layouts : Nat → Int32) (hm : fX6_countLayouts_B37 x1 x2 x3 s_layouts = some o_s_layouts) (hR : (∀ (pc : Nat) (lv : List (Nat × Value)), decode cX6_countLayouts pc = .ok (.return_, 1) → V Γ 5 0 0 pc lv [] [(h0, eO 4 [.ref a_s_sizes, .ref a_s_ways, .ref a_s_layouts, .int s_used]), (a_s_sizes, eI 12 s_sizes), (a_s_ways, eI 12 s_ways), (a_s_layouts, eI 169 o_s_layouts)])) : V Γ 5 0 0 37 [(0, .ref h0), (1, .int x1), (2, .int x2), (3, .int x3)] [] [(h0, eO 4 [.ref a_s_sizes, .ref a_s_ways, .ref a_s_layouts, .int s_used]), (a_s_sizes, eI 12 s_sizes), (a_s_ways, eI 12 s_ways), (a_s_layouts, eI 169 s_layouts)] := by
  unfold fX6_countLayouts_B37 at hm
  refine V_iload_n C 1 dX6_countLayouts_37 rfl rfl ?_
  refine V_bipush C (v := (13 : Int32)) dX6_countLayouts_38 (by decide) ?_
  refine V_imul C dX6_countLayouts_40 ?_
  refine V_iload_n C 2 dX6_countLayouts_41 rfl rfl ?_
  refine V_iadd C dX6_countLayouts_42 ?_
  refine V_istore C (lv' := [(4, .int ((x1 * (13 : Int32)) + x2)), (0, .ref h0), (1, .int x1), (2, .int x2), (3, .int x3)]) dX6_countLayouts_43 (by decide) rfl ?_
  refine V_iload C 0 dX6_countLayouts_45 rfl ?_
  refine V_if_lt C 68 dX6_countLayouts_47 (by decide) (fun c_2 => ?_) (fun c_2 => ?_)
  · have hm := ite_t c_2 hm
    cases hm
    exact hR _ _ dX6_countLayouts_68
  · have hm := ite_f c_2 hm
    refine V_iload C 0 dX6_countLayouts_50 rfl ?_
    refine V_aload_n C 1 dX6_countLayouts_52 rfl rfl ?_
    refine V_get C uX6_countLayouts_X6 0 2 rfl rfl (by decide) mX6_countLayouts_2 rfl dX6_countLayouts_53 ?_
    refine V_alen C (v := (169 : Int32)) 3 0 rfl rfl rfl rfl dX6_countLayouts_56 ?_
    refine V_icmp_ge C 68 dX6_countLayouts_57 (by decide) (fun c_3 => ?_) (fun c_3 => ?_)
    · have hm := ite_t c_3 hm
      refine V_aload_n C 1 dX6_countLayouts_60 rfl rfl ?_
      refine V_get C uX6_countLayouts_X6 0 2 rfl rfl (by decide) mX6_countLayouts_2 rfl dX6_countLayouts_61 ?_
      refine V_iload C 0 dX6_countLayouts_64 rfl ?_
      refine V_iload_n C 4 dX6_countLayouts_66 rfl rfl ?_
      obtain ⟨g_4, hg_4, hm⟩ := bnd hm
      refine V_iast C 3 rfl hg_4 dX6_countLayouts_67 (ws' := [(h0, eO 4 [.ref a_s_sizes, .ref a_s_ways, .ref a_s_layouts, .int s_used]), (a_s_sizes, eI 12 s_sizes), (a_s_ways, eI 12 s_ways), (a_s_layouts, eI 169 g_4)]) rfl ?_
      cases hm
      exact hR _ _ dX6_countLayouts_68
    · have hm := ite_f c_3 hm
      cases hm
      exact hR _ _ dX6_countLayouts_68
def fX6_countLayouts (p0 : Int32) (p1 : Int32) (s_used : Int32) (s_ways : Nat → Int32) (s_layouts : Nat → Int32) : Option ((Nat → Int32)) := if p0 = s_used then fX6_countLayouts_B37 p0 p1 (1 : Int32) s_layouts else if (0 : Int32) < p1 then Option.bind (fX6_layoutsBelow p0 (p1 - (1 : Int32)) s_layouts) (fun r_6 => Option.bind (fX6_layoutsWith p0 (p1 - (1 : Int32)) s_ways s_layouts) (fun r_8 => fX6_countLayouts_B37 p0 p1 (r_6 + r_8) s_layouts)) else fX6_countLayouts_B37 p0 p1 (0 : Int32) s_layouts
set_option maxHeartbeats 4000000 in
set_option maxRecDepth 100000 in
theorem kX6_countLayouts {l : Launch} (h0 : Nat) (a_s_sizes : Nat) (a_s_ways : Nat) (a_s_layouts : Nat) (s_used : Int32) (s_sizes : Nat → Int32) (s_ways : Nat → Int32) (s_layouts : Nat → Int32) (p0 : Int32) (p1 : Int32) (o_s_layouts : Nat → Int32) (hm : fX6_countLayouts p0 p1 s_used s_ways s_layouts = some o_s_layouts) : CtV l yX6_countLayouts wsX6_countLayouts ({ frames := 2, cells := 0, slots := 0, locals := 45 } : Room) [.ref h0, .int p0, .int p1] [(h0, eO 4 [.ref a_s_sizes, .ref a_s_ways, .ref a_s_layouts, .int s_used]), (a_s_sizes, eI 12 s_sizes), (a_s_ways, eI 12 s_ways), (a_s_layouts, eI 169 s_layouts)] [(h0, eO 4 [.ref a_s_sizes, .ref a_s_ways, .ref a_s_layouts, .int s_used]), (a_s_sizes, eI 12 s_sizes), (a_s_ways, eI 12 s_ways), (a_s_layouts, eI 169 o_s_layouts)] := by
  refine CtV_of (cc := cX6_countLayouts) (maxL := 5) (own := RX6) rfl (by decide) rfl (lv0 := [(0, .ref h0), (1, .int p0), (2, .int p1)]) rfl (Nat.le_of_ble_eq_true rfl) (fun Γ hL C hR => ?_)
  subst hL
  unfold fX6_countLayouts at hm
  refine V_iconst C (v := (0 : Int32)) dX6_countLayouts_0 (by decide) ?_
  refine V_istore_n C (lv' := [(3, .int (0 : Int32)), (0, .ref h0), (1, .int p0), (2, .int p1)]) dX6_countLayouts_1 rfl (by decide) rfl ?_
  refine V_iload_n C 2 dX6_countLayouts_2 rfl rfl ?_
  refine V_aload_n C 1 dX6_countLayouts_3 rfl rfl ?_
  refine V_get C uX6_countLayouts_X6 0 3 rfl rfl (by decide) mX6_countLayouts_1 rfl dX6_countLayouts_4 ?_
  refine V_icmp_ne C 15 dX6_countLayouts_7 (by decide) (fun c_1 => ?_) (fun c_1 => ?_)
  · have hm := ite_t c_1 hm
    refine V_iconst C (v := (1 : Int32)) dX6_countLayouts_10 (by decide) ?_
    refine V_istore_n C (lv' := [(3, .int (1 : Int32)), (0, .ref h0), (1, .int p0), (2, .int p1)]) dX6_countLayouts_11 rfl (by decide) rfl ?_
    refine V_goto C 37 dX6_countLayouts_12 (by decide) ?_
    refine V_lv [1, 2, 3, 0] rfl ?_
    exact jX6_countLayouts_B37 C h0 a_s_sizes a_s_ways a_s_layouts p0 p1 (1 : Int32) s_used s_sizes s_ways s_layouts _ hm hR
  · have hm := ite_f c_1 hm
    refine V_iload_n C 3 dX6_countLayouts_15 rfl rfl ?_
    refine V_if_le C 37 dX6_countLayouts_16 (by decide) (fun c_5 => ?_) (fun c_5 => ?_)
    · have hm := ite_t c_5 hm
      refine V_aload_n C 1 dX6_countLayouts_19 rfl rfl ?_
      refine V_iload_n C 2 dX6_countLayouts_20 rfl rfl ?_
      refine V_iload_n C 3 dX6_countLayouts_21 rfl rfl ?_
      refine V_iconst C (v := (1 : Int32)) dX6_countLayouts_22 (by decide) ?_
      refine V_isub C dX6_countLayouts_23 ?_
      obtain ⟨r_6, hc_7, hm⟩ := bnd hm
      refine V_callVI C (As := [.int p0, .int (p1 - (1 : Int32))]) (wr := []) (ws2 := [(h0, eO 4 [.ref a_s_sizes, .ref a_s_ways, .ref a_s_layouts, .int s_used]), (a_s_sizes, eI 12 s_sizes), (a_s_ways, eI 12 s_ways), (a_s_layouts, eI 169 s_layouts)]) (kX6_layoutsBelow h0 a_s_sizes a_s_ways a_s_layouts s_used s_sizes s_ways s_layouts p0 (p1 - (1 : Int32)) r_6 hc_7) gX6_countLayouts_X6_layoutsBelow rfl ⟨rfl, rfl⟩ hdX6_layoutsBelow ⟨Nat.le_of_ble_eq_true rfl, Nat.le_of_ble_eq_true rfl⟩ ⟨Nat.zero_le _, Nat.zero_le _⟩ 0 rfl rfl [0, 1, 2, 3] [] [0, 1, 2, 3] rfl rfl ⟨rfl, rfl, rfl⟩ (by decide) rfl rfl (Nat.le_of_ble_eq_true rfl) dX6_countLayouts_24 ?_
      refine V_aload_n C 1 dX6_countLayouts_27 rfl rfl ?_
      refine V_iload_n C 2 dX6_countLayouts_28 rfl rfl ?_
      refine V_iload_n C 3 dX6_countLayouts_29 rfl rfl ?_
      refine V_iconst C (v := (1 : Int32)) dX6_countLayouts_30 (by decide) ?_
      refine V_isub C dX6_countLayouts_31 ?_
      obtain ⟨r_8, hc_9, hm⟩ := bnd hm
      refine V_callVI C (As := [.int p0, .int (p1 - (1 : Int32))]) (wr := []) (ws2 := [(h0, eO 4 [.ref a_s_sizes, .ref a_s_ways, .ref a_s_layouts, .int s_used]), (a_s_sizes, eI 12 s_sizes), (a_s_ways, eI 12 s_ways), (a_s_layouts, eI 169 s_layouts)]) (kX6_layoutsWith h0 a_s_sizes a_s_ways a_s_layouts s_used s_sizes s_ways s_layouts p0 (p1 - (1 : Int32)) r_8 hc_9) gX6_countLayouts_X6_layoutsWith rfl ⟨rfl, rfl⟩ hdX6_layoutsWith ⟨Nat.le_of_ble_eq_true rfl, Nat.le_of_ble_eq_true rfl⟩ ⟨Nat.zero_le _, Nat.zero_le _⟩ 0 rfl rfl [0, 1, 2, 3] [] [0, 1, 2, 3] rfl rfl ⟨rfl, rfl, rfl⟩ (by decide) rfl rfl (Nat.le_of_ble_eq_true rfl) dX6_countLayouts_32 ?_
      refine V_iadd C dX6_countLayouts_35 ?_
      refine V_istore_n C (lv' := [(3, .int (r_6 + r_8)), (0, .ref h0), (1, .int p0), (2, .int p1)]) dX6_countLayouts_36 rfl (by decide) rfl ?_
      refine V_lv [1, 2, 3, 0] rfl ?_
      exact jX6_countLayouts_B37 C h0 a_s_sizes a_s_ways a_s_layouts p0 p1 (r_6 + r_8) s_used s_sizes s_ways s_layouts _ hm hR
    · have hm := ite_f c_5 hm
      refine V_lv [1, 2, 3, 0] rfl ?_
      exact jX6_countLayouts_B37 C h0 a_s_sizes a_s_ways a_s_layouts p0 p1 (0 : Int32) s_used s_sizes s_ways s_layouts _ hm hR
theorem hdX6_countLayouts : yX6_countLayouts.cls = RX6 ∧ yX6_countLayouts.cls ≠ "java/lang/invoke/MethodHandle" ∧ yX6_countLayouts.cls ≠ "java/lang/invoke/VarHandle" ∧ (parseMethodDescriptor yX6_countLayouts.desc).map (fun d => d.parameters.length) = some 2 := by decide +kernel
-- RodBoard$Strip.countReadings()I
theorem uX6_countReadings_X6 : ∀ w ∈ wsX60, w ∈ wsX6_countReadings := fun _ h => List.mem_cons_of_mem _ (List.mem_append_right _ h)
theorem mX6_countReadings_1 : Cond.fieldLink RX6 21 "RodBoard$Strip" "used" "I" ∈ wsX6_countReadings := List.mem_of_getElem? (i := 1) rfl
def fX6_countReadings_L11b (x1 : Int32) (s_used : Int32) (s_ways : Nat → Int32) (x2 : Int32) (s_layouts : Nat → Int32) : Option (((Int32) × (Nat → Int32)) ⊕ ((Nat → Int32))) := if (12 : Int32) < x2 then some (Sum.inr s_layouts) else Option.bind (fX6_countLayouts x1 x2 s_used s_ways s_layouts) (fun w_3 => some (Sum.inl (x2 + (1 : Int32), w_3)))
def fX6_countReadings_L11 (x1 : Int32) (s_used : Int32) (s_ways : Nat → Int32) : ((Int32) × (Nat → Int32)) → Option (((Int32) × (Nat → Int32)) ⊕ ((Nat → Int32))) := fun e => fX6_countReadings_L11b x1 s_used s_ways e.1 e.2
set_option maxHeartbeats 4000000 in
set_option maxRecDepth 100000 in
theorem bX6_countReadings_L11 {Γ : KT} (C : CX Γ cX6_countReadings 3 wsX6_countReadings RX6 ({ frames := 3, cells := 0, slots := 0, locals := 69 } : Room)) (h0 : Nat) (a_s_sizes : Nat) (a_s_ways : Nat) (a_s_layouts : Nat) (x1 : Int32) (s_used : Int32) (s_sizes : Nat → Int32) (s_ways : Nat → Int32) (x2 : Int32) (s_layouts : Nat → Int32) (x : ((Int32) × (Nat → Int32)) ⊕ ((Nat → Int32))) (hm : fX6_countReadings_L11b x1 s_used s_ways x2 s_layouts = some x) (hb : (∀ (x2' : Int32) (s_layouts' : Nat → Int32), x = Sum.inl (x2', s_layouts') → V Γ 3 0 0 11 [(0, .ref h0), (1, .int x1), (2, .int x2')] [] [(h0, eO 4 [.ref a_s_sizes, .ref a_s_ways, .ref a_s_layouts, .int s_used]), (a_s_sizes, eI 12 s_sizes), (a_s_ways, eI 12 s_ways), (a_s_layouts, eI 169 s_layouts')])) (he0 : (∀ (s_layouts' : Nat → Int32), x = Sum.inr s_layouts' → V Γ 3 0 0 29 [(0, .ref h0), (1, .int x1)] [] [(h0, eO 4 [.ref a_s_sizes, .ref a_s_ways, .ref a_s_layouts, .int s_used]), (a_s_sizes, eI 12 s_sizes), (a_s_ways, eI 12 s_ways), (a_s_layouts, eI 169 s_layouts')])) : V Γ 3 0 0 11 [(0, .ref h0), (1, .int x1), (2, .int x2)] [] [(h0, eO 4 [.ref a_s_sizes, .ref a_s_ways, .ref a_s_layouts, .int s_used]), (a_s_sizes, eI 12 s_sizes), (a_s_ways, eI 12 s_ways), (a_s_layouts, eI 169 s_layouts)] := by
  unfold fX6_countReadings_L11b at hm
  refine V_iload_n C 2 dX6_countReadings_11 rfl rfl ?_
  refine V_bipush C (v := (12 : Int32)) dX6_countReadings_12 (by decide) ?_
  refine V_icmp_gt C 29 dX6_countReadings_14 (by decide) (fun c_2 => ?_) (fun c_2 => ?_)
  · have hm := ite_t c_2 hm
    refine V_lv [0, 1] rfl ?_
    exact he0 s_layouts (Option.some.inj hm).symm
  · have hm := ite_f c_2 hm
    refine V_aload_n C 0 dX6_countReadings_17 rfl rfl ?_
    refine V_iload_n C 1 dX6_countReadings_18 rfl rfl ?_
    refine V_iload_n C 2 dX6_countReadings_19 rfl rfl ?_
    obtain ⟨w_3, hc_4, hm⟩ := bnd hm
    refine V_callVV C (As := [.int x1, .int x2]) (wr := []) (ws2 := [(h0, eO 4 [.ref a_s_sizes, .ref a_s_ways, .ref a_s_layouts, .int s_used]), (a_s_sizes, eI 12 s_sizes), (a_s_ways, eI 12 s_ways), (a_s_layouts, eI 169 w_3)]) (kX6_countLayouts h0 a_s_sizes a_s_ways a_s_layouts s_used s_sizes s_ways s_layouts x1 x2 w_3 hc_4) gX6_countReadings_X6_countLayouts rfl ⟨rfl, rfl⟩ hdX6_countLayouts ⟨Nat.le_of_ble_eq_true rfl, Nat.le_of_ble_eq_true rfl⟩ ⟨Nat.zero_le _, Nat.zero_le _⟩ 0 rfl rfl [0, 1, 2, 3] [] [0, 1, 2, 3] rfl rfl ⟨rfl, rfl, rfl⟩ (by decide) rfl rfl (Nat.le_of_ble_eq_true rfl) dX6_countReadings_20 ?_
    refine V_iinc C 2 (v := x2 + (1 : Int32)) (lv' := [(2, .int (x2 + (1 : Int32))), (0, .ref h0), (1, .int x1)]) dX6_countReadings_23 rfl rfl (by decide) rfl ?_
    refine V_goto C 11 dX6_countReadings_26 (by decide) ?_
    refine V_lv [1, 2, 0] rfl ?_
    exact hb (x2 + (1 : Int32)) w_3 (Option.some.inj hm).symm
theorem lX6_countReadings_L11 {Γ : KT} (C : CX Γ cX6_countReadings 3 wsX6_countReadings RX6 ({ frames := 3, cells := 0, slots := 0, locals := 69 } : Room)) (h0 : Nat) (a_s_sizes : Nat) (a_s_ways : Nat) (a_s_layouts : Nat) (x1 : Int32) (s_used : Int32) (s_sizes : Nat → Int32) (s_ways : Nat → Int32) (x2 : Int32) (s_layouts : Nat → Int32) (N : Nat) (e : (Nat → Int32)) (hN : itr (fX6_countReadings_L11 x1 s_used s_ways) N (x2, s_layouts) = some e) (he0 : (∀ (s_layouts' : Nat → Int32), e = s_layouts' → V Γ 3 0 0 29 [(0, .ref h0), (1, .int x1)] [] [(h0, eO 4 [.ref a_s_sizes, .ref a_s_ways, .ref a_s_layouts, .int s_used]), (a_s_sizes, eI 12 s_sizes), (a_s_ways, eI 12 s_ways), (a_s_layouts, eI 169 s_layouts')])) : V Γ 3 0 0 11 [(0, .ref h0), (1, .int x1), (2, .int x2)] [] [(h0, eO 4 [.ref a_s_sizes, .ref a_s_ways, .ref a_s_layouts, .int s_used]), (a_s_sizes, eI 12 s_sizes), (a_s_ways, eI 12 s_ways), (a_s_layouts, eI 169 s_layouts)] := by
  induction N generalizing x2 s_layouts with
  | zero => exact absurd hN (fun h => itr_0 h)
  | succ N ih =>
    obtain ⟨x, hx, hN⟩ := itr_s hN
    refine bX6_countReadings_L11 C h0 a_s_sizes a_s_ways a_s_layouts x1 s_used s_sizes s_ways x2 s_layouts x hx (fun x2' s_layouts' h => ih x2' s_layouts' (by subst h; exact hN)) (fun y0 h => he0 y0 (by subst h; exact (Option.some.inj hN).symm))
def fX6_countReadings_L5b (s_used : Int32) (s_ways : Nat → Int32) (x1 : Int32) (s_layouts : Nat → Int32) : Option (((Int32) × (Nat → Int32)) ⊕ ((Nat → Int32))) := if x1 < (0 : Int32) then some (Sum.inr s_layouts) else Option.bind (itr (fX6_countReadings_L11 x1 s_used s_ways) KF ((0 : Int32), s_layouts)) (fun u_7 => some (Sum.inl (x1 + (-1 : Int32), u_7)))
def fX6_countReadings_L5 (s_used : Int32) (s_ways : Nat → Int32) : ((Int32) × (Nat → Int32)) → Option (((Int32) × (Nat → Int32)) ⊕ ((Nat → Int32))) := fun e => fX6_countReadings_L5b s_used s_ways e.1 e.2
set_option maxHeartbeats 4000000 in
set_option maxRecDepth 100000 in
theorem bX6_countReadings_L5 {Γ : KT} (C : CX Γ cX6_countReadings 3 wsX6_countReadings RX6 ({ frames := 3, cells := 0, slots := 0, locals := 69 } : Room)) (h0 : Nat) (a_s_sizes : Nat) (a_s_ways : Nat) (a_s_layouts : Nat) (s_used : Int32) (s_sizes : Nat → Int32) (s_ways : Nat → Int32) (x1 : Int32) (s_layouts : Nat → Int32) (x : ((Int32) × (Nat → Int32)) ⊕ ((Nat → Int32))) (hm : fX6_countReadings_L5b s_used s_ways x1 s_layouts = some x) (hb : (∀ (x1' : Int32) (s_layouts' : Nat → Int32), x = Sum.inl (x1', s_layouts') → V Γ 3 0 0 5 [(0, .ref h0), (1, .int x1')] [] [(h0, eO 4 [.ref a_s_sizes, .ref a_s_ways, .ref a_s_layouts, .int s_used]), (a_s_sizes, eI 12 s_sizes), (a_s_ways, eI 12 s_ways), (a_s_layouts, eI 169 s_layouts')])) (he0 : (∀ (s_layouts' : Nat → Int32), x = Sum.inr s_layouts' → V Γ 3 0 0 35 [(0, .ref h0)] [] [(h0, eO 4 [.ref a_s_sizes, .ref a_s_ways, .ref a_s_layouts, .int s_used]), (a_s_sizes, eI 12 s_sizes), (a_s_ways, eI 12 s_ways), (a_s_layouts, eI 169 s_layouts')])) : V Γ 3 0 0 5 [(0, .ref h0), (1, .int x1)] [] [(h0, eO 4 [.ref a_s_sizes, .ref a_s_ways, .ref a_s_layouts, .int s_used]), (a_s_sizes, eI 12 s_sizes), (a_s_ways, eI 12 s_ways), (a_s_layouts, eI 169 s_layouts)] := by
  unfold fX6_countReadings_L5b at hm
  refine V_iload_n C 1 dX6_countReadings_5 rfl rfl ?_
  refine V_if_lt C 35 dX6_countReadings_6 (by decide) (fun c_1 => ?_) (fun c_1 => ?_)
  · have hm := ite_t c_1 hm
    refine V_lv [0] rfl ?_
    exact he0 s_layouts (Option.some.inj hm).symm
  · have hm := ite_f c_1 hm
    refine V_iconst C (v := (0 : Int32)) dX6_countReadings_9 (by decide) ?_
    refine V_istore_n C (lv' := [(2, .int (0 : Int32)), (0, .ref h0), (1, .int x1)]) dX6_countReadings_10 rfl (by decide) rfl ?_
    obtain ⟨u_7, hE_6, hm⟩ := bnd hm
    refine V_lv [1, 2, 0] rfl ?_
    refine lX6_countReadings_L11 C h0 a_s_sizes a_s_ways a_s_layouts x1 s_used s_sizes s_ways (0 : Int32) s_layouts KF _ hE_6 ?_
    intro q_8 hq
    cases hq
    refine V_iinc C 1 (v := x1 + (-1 : Int32)) (lv' := [(1, .int (x1 + (-1 : Int32))), (0, .ref h0)]) dX6_countReadings_29 rfl rfl (by decide) rfl ?_
    refine V_goto C 5 dX6_countReadings_32 (by decide) ?_
    refine V_lv [1, 0] rfl ?_
    exact hb (x1 + (-1 : Int32)) u_7 (Option.some.inj hm).symm
theorem lX6_countReadings_L5 {Γ : KT} (C : CX Γ cX6_countReadings 3 wsX6_countReadings RX6 ({ frames := 3, cells := 0, slots := 0, locals := 69 } : Room)) (h0 : Nat) (a_s_sizes : Nat) (a_s_ways : Nat) (a_s_layouts : Nat) (s_used : Int32) (s_sizes : Nat → Int32) (s_ways : Nat → Int32) (x1 : Int32) (s_layouts : Nat → Int32) (N : Nat) (e : (Nat → Int32)) (hN : itr (fX6_countReadings_L5 s_used s_ways) N (x1, s_layouts) = some e) (he0 : (∀ (s_layouts' : Nat → Int32), e = s_layouts' → V Γ 3 0 0 35 [(0, .ref h0)] [] [(h0, eO 4 [.ref a_s_sizes, .ref a_s_ways, .ref a_s_layouts, .int s_used]), (a_s_sizes, eI 12 s_sizes), (a_s_ways, eI 12 s_ways), (a_s_layouts, eI 169 s_layouts')])) : V Γ 3 0 0 5 [(0, .ref h0), (1, .int x1)] [] [(h0, eO 4 [.ref a_s_sizes, .ref a_s_ways, .ref a_s_layouts, .int s_used]), (a_s_sizes, eI 12 s_sizes), (a_s_ways, eI 12 s_ways), (a_s_layouts, eI 169 s_layouts)] := by
  induction N generalizing x1 s_layouts with
  | zero => exact absurd hN (fun h => itr_0 h)
  | succ N ih =>
    obtain ⟨x, hx, hN⟩ := itr_s hN
    refine bX6_countReadings_L5 C h0 a_s_sizes a_s_ways a_s_layouts s_used s_sizes s_ways x1 s_layouts x hx (fun x1' s_layouts' h => ih x1' s_layouts' (by subst h; exact hN)) (fun y0 h => he0 y0 (by subst h; exact (Option.some.inj hN).symm))
def fX6_countReadings (s_used : Int32) (s_ways : Nat → Int32) (s_layouts : Nat → Int32) : Option ((Int32) × (Nat → Int32)) := Option.bind (itr (fX6_countReadings_L5 s_used s_ways) KF (s_used, s_layouts)) (fun u_11 => Option.bind (fX6_layoutsBelow (0 : Int32) (12 : Int32) u_11) (fun r_12 => some (r_12, u_11)))
set_option maxHeartbeats 4000000 in
set_option maxRecDepth 100000 in
theorem kX6_countReadings {l : Launch} (h0 : Nat) (a_s_sizes : Nat) (a_s_ways : Nat) (a_s_layouts : Nat) (s_used : Int32) (s_sizes : Nat → Int32) (s_ways : Nat → Int32) (s_layouts : Nat → Int32) (r : Int32) (o_s_layouts : Nat → Int32) (hm : fX6_countReadings s_used s_ways s_layouts = some (r, o_s_layouts)) : CtI l yX6_countReadings wsX6_countReadings ({ frames := 3, cells := 0, slots := 0, locals := 69 } : Room) [.ref h0] [(h0, eO 4 [.ref a_s_sizes, .ref a_s_ways, .ref a_s_layouts, .int s_used]), (a_s_sizes, eI 12 s_sizes), (a_s_ways, eI 12 s_ways), (a_s_layouts, eI 169 s_layouts)] r [(h0, eO 4 [.ref a_s_sizes, .ref a_s_ways, .ref a_s_layouts, .int s_used]), (a_s_sizes, eI 12 s_sizes), (a_s_ways, eI 12 s_ways), (a_s_layouts, eI 169 o_s_layouts)] := by
  refine CtI_of (cc := cX6_countReadings) (maxL := 3) (ty := .int) (own := RX6) rfl (by decide) rfl (lv0 := [(0, .ref h0)]) rfl (Nat.le_of_ble_eq_true rfl) (fun Γ hL C hR => ?_)
  subst hL
  unfold fX6_countReadings at hm
  refine V_aload_n C 0 dX6_countReadings_0 rfl rfl ?_
  refine V_get C uX6_countReadings_X6 0 3 rfl rfl (by decide) mX6_countReadings_1 rfl dX6_countReadings_1 ?_
  refine V_istore_n C (lv' := [(1, .int s_used), (0, .ref h0)]) dX6_countReadings_4 rfl (by decide) rfl ?_
  obtain ⟨u_11, hE_10, hm⟩ := bnd hm
  refine V_lv [1, 0] rfl ?_
  refine lX6_countReadings_L5 C h0 a_s_sizes a_s_ways a_s_layouts s_used s_sizes s_ways s_used s_layouts KF _ hE_10 ?_
  intro q_14 hq
  cases hq
  refine V_aload_n C 0 dX6_countReadings_35 rfl rfl ?_
  refine V_iconst C (v := (0 : Int32)) dX6_countReadings_36 (by decide) ?_
  refine V_bipush C (v := (12 : Int32)) dX6_countReadings_37 (by decide) ?_
  obtain ⟨r_12, hc_13, hm⟩ := bnd hm
  refine V_callVI C (As := [.int (0 : Int32), .int (12 : Int32)]) (wr := []) (ws2 := [(h0, eO 4 [.ref a_s_sizes, .ref a_s_ways, .ref a_s_layouts, .int s_used]), (a_s_sizes, eI 12 s_sizes), (a_s_ways, eI 12 s_ways), (a_s_layouts, eI 169 u_11)]) (kX6_layoutsBelow h0 a_s_sizes a_s_ways a_s_layouts s_used s_sizes s_ways u_11 (0 : Int32) (12 : Int32) r_12 hc_13) gX6_countReadings_X6_layoutsBelow rfl ⟨rfl, rfl⟩ hdX6_layoutsBelow ⟨Nat.le_of_ble_eq_true rfl, Nat.le_of_ble_eq_true rfl⟩ ⟨Nat.zero_le _, Nat.zero_le _⟩ 0 rfl rfl [0, 1, 2, 3] [] [0, 1, 2, 3] rfl rfl ⟨rfl, rfl, rfl⟩ (by decide) rfl rfl (Nat.le_of_ble_eq_true rfl) dX6_countReadings_39 ?_
  cases hm
  exact hR _ _ rfl dX6_countReadings_42
theorem hdX6_countReadings : yX6_countReadings.cls = RX6 ∧ yX6_countReadings.cls ≠ "java/lang/invoke/MethodHandle" ∧ yX6_countReadings.cls ≠ "java/lang/invoke/VarHandle" ∧ (parseMethodDescriptor yX6_countReadings.desc).map (fun d => d.parameters.length) = some 0 := by decide +kernel
-- RodBoard$Strip.findReading(I)J
theorem mX6_findReading_1 : Cond.constantLong RX6 56 (-1000000000000006) ∈ wsX6_findReading := List.mem_of_getElem? (i := 1) rfl
theorem uX6_findReading_X6 : ∀ w ∈ wsX60, w ∈ wsX6_findReading := fun _ h => List.mem_cons_of_mem _ (List.mem_append_right _ h)
theorem mX6_findReading_2 : Cond.fieldLink RX6 21 "RodBoard$Strip" "used" "I" ∈ wsX6_findReading := List.mem_of_getElem? (i := 2) rfl
theorem mX6_findReading_3 : Cond.fieldLink RX6 9 "RodBoard$Strip" "sizes" "[I" ∈ wsX6_findReading := List.mem_of_getElem? (i := 3) rfl
def fX6_findReading_L49b (x3 : Int32) (x4 : Int64) (x6 : Int32) (s_ways : Nat → Int32) (s_layouts : Nat → Int32) (x2 : Int32) (x7 : Int32) : Option (((Int32) × (Int32)) ⊕ (((Int32) × (Int32)) ⊕ ((Int32) × (Int32)))) := if x7 < (x3 - (1 : Int32)) then Option.bind (fX6_layoutsWith x6 x7 s_ways s_layouts) (fun r_9 => if x2 < r_9 then some (Sum.inr (Sum.inr (x2, x7))) else some (Sum.inl (x2 - r_9, x7 + (1 : Int32)))) else some (Sum.inr (Sum.inl (x2, x7)))
def fX6_findReading_L49 (x3 : Int32) (x4 : Int64) (x6 : Int32) (s_ways : Nat → Int32) (s_layouts : Nat → Int32) : ((Int32) × (Int32)) → Option (((Int32) × (Int32)) ⊕ (((Int32) × (Int32)) ⊕ ((Int32) × (Int32)))) := fun e => fX6_findReading_L49b x3 x4 x6 s_ways s_layouts e.1 e.2
set_option maxHeartbeats 4000000 in
set_option maxRecDepth 100000 in
theorem bX6_findReading_L49 {Γ : KT} (C : CX Γ cX6_findReading 9 wsX6_findReading RX6 ({ frames := 4, cells := 0, slots := 0, locals := 91 } : Room)) (h0 : Nat) (a_s_sizes : Nat) (a_s_ways : Nat) (a_s_layouts : Nat) (x3 : Int32) (x4 : Int64) (x6 : Int32) (s_used : Int32) (s_sizes : Nat → Int32) (s_ways : Nat → Int32) (s_layouts : Nat → Int32) (x2 : Int32) (x7 : Int32) (x : ((Int32) × (Int32)) ⊕ (((Int32) × (Int32)) ⊕ ((Int32) × (Int32)))) (hm : fX6_findReading_L49b x3 x4 x6 s_ways s_layouts x2 x7 = some x) (hb : (∀ (x2' : Int32) (x7' : Int32), x = Sum.inl (x2', x7') → V Γ 9 0 0 49 [(0, .ref h0), (2, .int x2'), (3, .int x3), (4, .long x4), (6, .int x6), (7, .int x7')] [] [(h0, eO 4 [.ref a_s_sizes, .ref a_s_ways, .ref a_s_layouts, .int s_used]), (a_s_sizes, eI 12 s_sizes), (a_s_ways, eI 12 s_ways), (a_s_layouts, eI 169 s_layouts)])) (he0 : (∀ (x2' : Int32) (x7' : Int32), x = Sum.inr (Sum.inl (x2', x7')) → V Γ 9 0 0 87 [(0, .ref h0), (2, .int x2'), (4, .long x4), (6, .int x6), (7, .int x7')] [] [(h0, eO 4 [.ref a_s_sizes, .ref a_s_ways, .ref a_s_layouts, .int s_used]), (a_s_sizes, eI 12 s_sizes), (a_s_ways, eI 12 s_ways), (a_s_layouts, eI 169 s_layouts)])) (he1 : (∀ (x2' : Int32) (x7' : Int32), x = Sum.inr (Sum.inr (x2', x7')) → V Γ 9 0 0 73 [(0, .ref h0), (2, .int x2'), (4, .long x4), (6, .int x6), (7, .int x7')] [] [(h0, eO 4 [.ref a_s_sizes, .ref a_s_ways, .ref a_s_layouts, .int s_used]), (a_s_sizes, eI 12 s_sizes), (a_s_ways, eI 12 s_ways), (a_s_layouts, eI 169 s_layouts)])) : V Γ 9 0 0 49 [(0, .ref h0), (2, .int x2), (3, .int x3), (4, .long x4), (6, .int x6), (7, .int x7)] [] [(h0, eO 4 [.ref a_s_sizes, .ref a_s_ways, .ref a_s_layouts, .int s_used]), (a_s_sizes, eI 12 s_sizes), (a_s_ways, eI 12 s_ways), (a_s_layouts, eI 169 s_layouts)] := by
  unfold fX6_findReading_L49b at hm
  refine V_iload C 5 dX6_findReading_49 rfl ?_
  refine V_iload_n C 2 dX6_findReading_51 rfl rfl ?_
  refine V_iconst C (v := (1 : Int32)) dX6_findReading_52 (by decide) ?_
  refine V_isub C dX6_findReading_53 ?_
  refine V_icmp_ge C 87 dX6_findReading_54 (by decide) (fun c_8 => ?_) (fun c_8 => ?_)
  · have hm := ite_t c_8 hm
    refine V_aload_n C 0 dX6_findReading_57 rfl rfl ?_
    refine V_iload C 4 dX6_findReading_58 rfl ?_
    refine V_iload C 5 dX6_findReading_60 rfl ?_
    obtain ⟨r_9, hc_10, hm⟩ := bnd hm
    refine V_callVI C (As := [.int x6, .int x7]) (wr := []) (ws2 := [(h0, eO 4 [.ref a_s_sizes, .ref a_s_ways, .ref a_s_layouts, .int s_used]), (a_s_sizes, eI 12 s_sizes), (a_s_ways, eI 12 s_ways), (a_s_layouts, eI 169 s_layouts)]) (kX6_layoutsWith h0 a_s_sizes a_s_ways a_s_layouts s_used s_sizes s_ways s_layouts x6 x7 r_9 hc_10) gX6_findReading_X6_layoutsWith rfl ⟨rfl, rfl⟩ hdX6_layoutsWith ⟨Nat.le_of_ble_eq_true rfl, Nat.le_of_ble_eq_true rfl⟩ ⟨Nat.zero_le _, Nat.zero_le _⟩ 0 rfl rfl [0, 1, 2, 3] [] [0, 1, 2, 3] rfl rfl ⟨rfl, rfl, rfl⟩ (by decide) rfl rfl (Nat.le_of_ble_eq_true rfl) dX6_findReading_62 ?_
    refine V_istore C (lv' := [(8, .int r_9), (0, .ref h0), (2, .int x2), (3, .int x3), (4, .long x4), (6, .int x6), (7, .int x7)]) dX6_findReading_65 (by decide) rfl ?_
    refine V_iload_n C 2 dX6_findReading_67 rfl rfl ?_
    refine V_iload C 0 dX6_findReading_68 rfl ?_
    refine V_icmp_ge C 76 dX6_findReading_70 (by decide) (fun c_11 => ?_) (fun c_11 => ?_)
    · have hm := ite_t c_11 hm
      refine V_lv [1, 2, 4, 5, 6] rfl ?_
      exact he1 x2 x7 (Option.some.inj hm).symm
    · have hm := ite_f c_11 hm
      refine V_iload_n C 2 dX6_findReading_76 rfl rfl ?_
      refine V_iload C 0 dX6_findReading_77 rfl ?_
      refine V_isub C dX6_findReading_79 ?_
      refine V_istore_n C (lv' := [(2, .int (x2 - r_9)), (8, .int r_9), (0, .ref h0), (3, .int x3), (4, .long x4), (6, .int x6), (7, .int x7)]) dX6_findReading_80 rfl (by decide) rfl ?_
      refine V_iinc C 6 (v := x7 + (1 : Int32)) (lv' := [(7, .int (x7 + (1 : Int32))), (2, .int (x2 - r_9)), (8, .int r_9), (0, .ref h0), (3, .int x3), (4, .long x4), (6, .int x6)]) dX6_findReading_81 rfl rfl (by decide) rfl ?_
      refine V_goto C 49 dX6_findReading_84 (by decide) ?_
      refine V_lv [3, 1, 4, 5, 6, 0] rfl ?_
      exact hb (x2 - r_9) (x7 + (1 : Int32)) (Option.some.inj hm).symm
  · have hm := ite_f c_8 hm
    refine V_lv [0, 1, 3, 4, 5] rfl ?_
    exact he0 x2 x7 (Option.some.inj hm).symm
theorem lX6_findReading_L49 {Γ : KT} (C : CX Γ cX6_findReading 9 wsX6_findReading RX6 ({ frames := 4, cells := 0, slots := 0, locals := 91 } : Room)) (h0 : Nat) (a_s_sizes : Nat) (a_s_ways : Nat) (a_s_layouts : Nat) (x3 : Int32) (x4 : Int64) (x6 : Int32) (s_used : Int32) (s_sizes : Nat → Int32) (s_ways : Nat → Int32) (s_layouts : Nat → Int32) (x2 : Int32) (x7 : Int32) (N : Nat) (e : ((Int32) × (Int32)) ⊕ ((Int32) × (Int32))) (hN : itr (fX6_findReading_L49 x3 x4 x6 s_ways s_layouts) N (x2, x7) = some e) (he0 : (∀ (x2' : Int32) (x7' : Int32), e = Sum.inl (x2', x7') → V Γ 9 0 0 87 [(0, .ref h0), (2, .int x2'), (4, .long x4), (6, .int x6), (7, .int x7')] [] [(h0, eO 4 [.ref a_s_sizes, .ref a_s_ways, .ref a_s_layouts, .int s_used]), (a_s_sizes, eI 12 s_sizes), (a_s_ways, eI 12 s_ways), (a_s_layouts, eI 169 s_layouts)])) (he1 : (∀ (x2' : Int32) (x7' : Int32), e = Sum.inr (x2', x7') → V Γ 9 0 0 73 [(0, .ref h0), (2, .int x2'), (4, .long x4), (6, .int x6), (7, .int x7')] [] [(h0, eO 4 [.ref a_s_sizes, .ref a_s_ways, .ref a_s_layouts, .int s_used]), (a_s_sizes, eI 12 s_sizes), (a_s_ways, eI 12 s_ways), (a_s_layouts, eI 169 s_layouts)])) : V Γ 9 0 0 49 [(0, .ref h0), (2, .int x2), (3, .int x3), (4, .long x4), (6, .int x6), (7, .int x7)] [] [(h0, eO 4 [.ref a_s_sizes, .ref a_s_ways, .ref a_s_layouts, .int s_used]), (a_s_sizes, eI 12 s_sizes), (a_s_ways, eI 12 s_ways), (a_s_layouts, eI 169 s_layouts)] := by
  induction N generalizing x2 x7 with
  | zero => exact absurd hN (fun h => itr_0 h)
  | succ N ih =>
    obtain ⟨x, hx, hN⟩ := itr_s hN
    refine bX6_findReading_L49 C h0 a_s_sizes a_s_ways a_s_layouts x3 x4 x6 s_used s_sizes s_ways s_layouts x2 x7 x hx (fun x2' x7' h => ih x2' x7' (by subst h; exact hN)) (fun y0 y1 h => he0 y0 y1 (by subst h; exact (Option.some.inj hN).symm)) (fun y0 y1 h => he1 y0 y1 (by subst h; exact (Option.some.inj hN).symm))
def fX6_findReading_L27b (s_used : Int32) (s_sizes : Nat → Int32) (s_ways : Nat → Int32) (s_layouts : Nat → Int32) (x2 : Int32) (x3 : Int32) (x4 : Int64) (x6 : Int32) : Option (((Int32) × (Int32) × (Int64) × (Int32)) ⊕ ((Int64))) := if x6 < s_used then if x6 < (12 : Int32) then Option.bind (itr (fX6_findReading_L49 x3 x4 x6 s_ways s_layouts) KF (x2, (0 : Int32))) (Sum.elim (un2 (fun x2_14 x7_15 => Option.bind (rdI s_sizes 12 x6) (fun v_16 => Option.bind (fX5_tenTo x7_15) (fun r_17 => some (Sum.inl (x2_14, x7_15, x4 + (v_16.toInt64 * r_17), x6 + (1 : Int32))))))) (un2 (fun x2_19 x7_20 => Option.bind (rdI s_sizes 12 x6) (fun v_21 => Option.bind (fX5_tenTo x7_20) (fun r_22 => some (Sum.inl (x2_19, x7_20, x4 + (v_21.toInt64 * r_22), x6 + (1 : Int32)))))))) else some (Sum.inr x4) else some (Sum.inr x4)
def fX6_findReading_L27 (s_used : Int32) (s_sizes : Nat → Int32) (s_ways : Nat → Int32) (s_layouts : Nat → Int32) : ((Int32) × (Int32) × (Int64) × (Int32)) → Option (((Int32) × (Int32) × (Int64) × (Int32)) ⊕ ((Int64))) := fun e => fX6_findReading_L27b s_used s_sizes s_ways s_layouts e.1 e.2.1 e.2.2.1 e.2.2.2
set_option maxHeartbeats 4000000 in
set_option maxRecDepth 100000 in
theorem bX6_findReading_L27 {Γ : KT} (C : CX Γ cX6_findReading 9 wsX6_findReading RX6 ({ frames := 4, cells := 0, slots := 0, locals := 91 } : Room)) (h0 : Nat) (a_s_sizes : Nat) (a_s_ways : Nat) (a_s_layouts : Nat) (s_used : Int32) (s_sizes : Nat → Int32) (s_ways : Nat → Int32) (s_layouts : Nat → Int32) (x2 : Int32) (x3 : Int32) (x4 : Int64) (x6 : Int32) (x : ((Int32) × (Int32) × (Int64) × (Int32)) ⊕ ((Int64))) (hm : fX6_findReading_L27b s_used s_sizes s_ways s_layouts x2 x3 x4 x6 = some x) (hb : (∀ (x2' : Int32) (x3' : Int32) (x4' : Int64) (x6' : Int32), x = Sum.inl (x2', x3', x4', x6') → V Γ 9 0 0 27 [(0, .ref h0), (2, .int x2'), (3, .int x3'), (4, .long x4'), (6, .int x6')] [] [(h0, eO 4 [.ref a_s_sizes, .ref a_s_ways, .ref a_s_layouts, .int s_used]), (a_s_sizes, eI 12 s_sizes), (a_s_ways, eI 12 s_ways), (a_s_layouts, eI 169 s_layouts)])) (he0 : (∀ (x4' : Int64), x = Sum.inr x4' → V Γ 9 0 0 115 [(4, .long x4')] [] [(h0, eO 4 [.ref a_s_sizes, .ref a_s_ways, .ref a_s_layouts, .int s_used]), (a_s_sizes, eI 12 s_sizes), (a_s_ways, eI 12 s_ways), (a_s_layouts, eI 169 s_layouts)])) : V Γ 9 0 0 27 [(0, .ref h0), (2, .int x2), (3, .int x3), (4, .long x4), (6, .int x6)] [] [(h0, eO 4 [.ref a_s_sizes, .ref a_s_ways, .ref a_s_layouts, .int s_used]), (a_s_sizes, eI 12 s_sizes), (a_s_ways, eI 12 s_ways), (a_s_layouts, eI 169 s_layouts)] := by
  unfold fX6_findReading_L27b at hm
  refine V_iload C 4 dX6_findReading_27 rfl ?_
  refine V_aload_n C 0 dX6_findReading_29 rfl rfl ?_
  refine V_get C uX6_findReading_X6 0 3 rfl rfl (by decide) mX6_findReading_2 rfl dX6_findReading_30 ?_
  refine V_icmp_ge C 115 dX6_findReading_33 (by decide) (fun c_6 => ?_) (fun c_6 => ?_)
  · have hm := ite_t c_6 hm
    refine V_iload C 4 dX6_findReading_36 rfl ?_
    refine V_aload_n C 0 dX6_findReading_38 rfl rfl ?_
    refine V_get C uX6_findReading_X6 0 0 rfl rfl (by decide) mX6_findReading_3 rfl dX6_findReading_39 ?_
    refine V_alen C (v := (12 : Int32)) 1 0 rfl rfl rfl rfl dX6_findReading_42 ?_
    refine V_icmp_ge C 115 dX6_findReading_43 (by decide) (fun c_7 => ?_) (fun c_7 => ?_)
    · have hm := ite_t c_7 hm
      refine V_iconst C (v := (0 : Int32)) dX6_findReading_46 (by decide) ?_
      refine V_istore C (lv' := [(7, .int (0 : Int32)), (0, .ref h0), (2, .int x2), (3, .int x3), (4, .long x4), (6, .int x6)]) dX6_findReading_47 (by decide) rfl ?_
      obtain ⟨e_12, hE_13, hm⟩ := bnd hm
      refine V_lv [1, 2, 3, 4, 5, 0] rfl ?_
      refine lX6_findReading_L49 C h0 a_s_sizes a_s_ways a_s_layouts x3 x4 x6 s_used s_sizes s_ways s_layouts x2 (0 : Int32) KF _ hE_13 ?_ ?_
      · intro x2_14 x7_15 hq
        subst hq
        -- exit
        dsimp only [Sum.elim_inl, Sum.elim_inr, un2, un3, un4, un5, un6, un7, un8, un9, un10, un11] at hm
        refine V_lload C 2 dX6_findReading_87 rfl ?_
        refine V_aload_n C 0 dX6_findReading_89 rfl rfl ?_
        refine V_get C uX6_findReading_X6 0 0 rfl rfl (by decide) mX6_findReading_3 rfl dX6_findReading_90 ?_
        refine V_iload C 3 dX6_findReading_93 rfl ?_
        obtain ⟨v_16, hv_16, hm⟩ := bnd hm
        refine V_iald C 1 rfl hv_16 dX6_findReading_95 ?_
        refine V_i2l C dX6_findReading_96 ?_
        refine V_iload C 4 dX6_findReading_97 rfl ?_
        obtain ⟨r_17, hc_18, hm⟩ := bnd hm
        refine V_callSL C (As := [.int x7_15]) (wr := [(h0, eO 4 [.ref a_s_sizes, .ref a_s_ways, .ref a_s_layouts, .int s_used]), (a_s_sizes, eI 12 s_sizes), (a_s_ways, eI 12 s_ways), (a_s_layouts, eI 169 s_layouts)]) (ws2 := [(h0, eO 4 [.ref a_s_sizes, .ref a_s_ways, .ref a_s_layouts, .int s_used]), (a_s_sizes, eI 12 s_sizes), (a_s_ways, eI 12 s_ways), (a_s_layouts, eI 169 s_layouts)]) (kX5_tenTo x7_15 r_17 hc_18) gX6_findReading_X5_tenTo rfl ⟨rfl, rfl⟩ hdX5_tenTo ⟨Nat.le_of_ble_eq_true rfl, Nat.le_of_ble_eq_true rfl⟩ ⟨Nat.zero_le _, Nat.zero_le _⟩ [] [0, 1, 2, 3] [0, 1, 2, 3] rfl rfl ⟨rfl, rfl, rfl⟩ (by decide) rfl rfl (Nat.le_of_ble_eq_true rfl) dX6_findReading_99 ?_
        refine V_lmul C dX6_findReading_102 ?_
        refine V_ladd C dX6_findReading_103 ?_
        refine V_lstore C (lv' := [(4, .long (x4 + (v_16.toInt64 * r_17))), (0, .ref h0), (2, .int x2_14), (6, .int x6), (7, .int x7_15)]) dX6_findReading_104 (by decide) rfl ?_
        refine V_iload C 4 dX6_findReading_106 rfl ?_
        refine V_istore_n C (lv' := [(3, .int x7_15), (4, .long (x4 + (v_16.toInt64 * r_17))), (0, .ref h0), (2, .int x2_14), (6, .int x6), (7, .int x7_15)]) dX6_findReading_108 rfl (by decide) rfl ?_
        refine V_iinc C 4 (v := x6 + (1 : Int32)) (lv' := [(6, .int (x6 + (1 : Int32))), (3, .int x7_15), (4, .long (x4 + (v_16.toInt64 * r_17))), (0, .ref h0), (2, .int x2_14), (7, .int x7_15)]) dX6_findReading_109 rfl rfl (by decide) rfl ?_
        refine V_goto C 27 dX6_findReading_112 (by decide) ?_
        refine V_lv [3, 4, 1, 2, 0] rfl ?_
        exact hb x2_14 x7_15 (x4 + (v_16.toInt64 * r_17)) (x6 + (1 : Int32)) (Option.some.inj hm).symm
      · intro x2_19 x7_20 hq
        subst hq
        -- exit
        dsimp only [Sum.elim_inl, Sum.elim_inr, un2, un3, un4, un5, un6, un7, un8, un9, un10, un11] at hm
        refine V_goto C 87 dX6_findReading_73 (by decide) ?_
        refine V_lload C 2 dX6_findReading_87 rfl ?_
        refine V_aload_n C 0 dX6_findReading_89 rfl rfl ?_
        refine V_get C uX6_findReading_X6 0 0 rfl rfl (by decide) mX6_findReading_3 rfl dX6_findReading_90 ?_
        refine V_iload C 3 dX6_findReading_93 rfl ?_
        obtain ⟨v_21, hv_21, hm⟩ := bnd hm
        refine V_iald C 1 rfl hv_21 dX6_findReading_95 ?_
        refine V_i2l C dX6_findReading_96 ?_
        refine V_iload C 4 dX6_findReading_97 rfl ?_
        obtain ⟨r_22, hc_23, hm⟩ := bnd hm
        refine V_callSL C (As := [.int x7_20]) (wr := [(h0, eO 4 [.ref a_s_sizes, .ref a_s_ways, .ref a_s_layouts, .int s_used]), (a_s_sizes, eI 12 s_sizes), (a_s_ways, eI 12 s_ways), (a_s_layouts, eI 169 s_layouts)]) (ws2 := [(h0, eO 4 [.ref a_s_sizes, .ref a_s_ways, .ref a_s_layouts, .int s_used]), (a_s_sizes, eI 12 s_sizes), (a_s_ways, eI 12 s_ways), (a_s_layouts, eI 169 s_layouts)]) (kX5_tenTo x7_20 r_22 hc_23) gX6_findReading_X5_tenTo rfl ⟨rfl, rfl⟩ hdX5_tenTo ⟨Nat.le_of_ble_eq_true rfl, Nat.le_of_ble_eq_true rfl⟩ ⟨Nat.zero_le _, Nat.zero_le _⟩ [] [0, 1, 2, 3] [0, 1, 2, 3] rfl rfl ⟨rfl, rfl, rfl⟩ (by decide) rfl rfl (Nat.le_of_ble_eq_true rfl) dX6_findReading_99 ?_
        refine V_lmul C dX6_findReading_102 ?_
        refine V_ladd C dX6_findReading_103 ?_
        refine V_lstore C (lv' := [(4, .long (x4 + (v_21.toInt64 * r_22))), (0, .ref h0), (2, .int x2_19), (6, .int x6), (7, .int x7_20)]) dX6_findReading_104 (by decide) rfl ?_
        refine V_iload C 4 dX6_findReading_106 rfl ?_
        refine V_istore_n C (lv' := [(3, .int x7_20), (4, .long (x4 + (v_21.toInt64 * r_22))), (0, .ref h0), (2, .int x2_19), (6, .int x6), (7, .int x7_20)]) dX6_findReading_108 rfl (by decide) rfl ?_
        refine V_iinc C 4 (v := x6 + (1 : Int32)) (lv' := [(6, .int (x6 + (1 : Int32))), (3, .int x7_20), (4, .long (x4 + (v_21.toInt64 * r_22))), (0, .ref h0), (2, .int x2_19), (7, .int x7_20)]) dX6_findReading_109 rfl rfl (by decide) rfl ?_
        refine V_goto C 27 dX6_findReading_112 (by decide) ?_
        refine V_lv [3, 4, 1, 2, 0] rfl ?_
        exact hb x2_19 x7_20 (x4 + (v_21.toInt64 * r_22)) (x6 + (1 : Int32)) (Option.some.inj hm).symm
    · have hm := ite_f c_7 hm
      refine V_lv [3] rfl ?_
      exact he0 x4 (Option.some.inj hm).symm
  · have hm := ite_f c_6 hm
    refine V_lv [3] rfl ?_
    exact he0 x4 (Option.some.inj hm).symm
theorem lX6_findReading_L27 {Γ : KT} (C : CX Γ cX6_findReading 9 wsX6_findReading RX6 ({ frames := 4, cells := 0, slots := 0, locals := 91 } : Room)) (h0 : Nat) (a_s_sizes : Nat) (a_s_ways : Nat) (a_s_layouts : Nat) (s_used : Int32) (s_sizes : Nat → Int32) (s_ways : Nat → Int32) (s_layouts : Nat → Int32) (x2 : Int32) (x3 : Int32) (x4 : Int64) (x6 : Int32) (N : Nat) (e : (Int64)) (hN : itr (fX6_findReading_L27 s_used s_sizes s_ways s_layouts) N (x2, x3, x4, x6) = some e) (he0 : (∀ (x4' : Int64), e = x4' → V Γ 9 0 0 115 [(4, .long x4')] [] [(h0, eO 4 [.ref a_s_sizes, .ref a_s_ways, .ref a_s_layouts, .int s_used]), (a_s_sizes, eI 12 s_sizes), (a_s_ways, eI 12 s_ways), (a_s_layouts, eI 169 s_layouts)])) : V Γ 9 0 0 27 [(0, .ref h0), (2, .int x2), (3, .int x3), (4, .long x4), (6, .int x6)] [] [(h0, eO 4 [.ref a_s_sizes, .ref a_s_ways, .ref a_s_layouts, .int s_used]), (a_s_sizes, eI 12 s_sizes), (a_s_ways, eI 12 s_ways), (a_s_layouts, eI 169 s_layouts)] := by
  induction N generalizing x2 x3 x4 x6 with
  | zero => exact absurd hN (fun h => itr_0 h)
  | succ N ih =>
    obtain ⟨x, hx, hN⟩ := itr_s hN
    refine bX6_findReading_L27 C h0 a_s_sizes a_s_ways a_s_layouts s_used s_sizes s_ways s_layouts x2 x3 x4 x6 x hx (fun x2' x3' x4' x6' h => ih x2' x3' x4' x6' (by subst h; exact hN)) (fun y0 h => he0 y0 (by subst h; exact (Option.some.inj hN).symm))
def fX6_findReading (p0 : Int32) (s_used : Int32) (s_sizes : Nat → Int32) (s_ways : Nat → Int32) (s_layouts : Nat → Int32) : Option ((Int64) × (Nat → Int32)) := if p0 < (0 : Int32) then some ((-1000000000000006 : Int64), s_layouts) else bn2 (fX6_countReadings s_used s_ways s_layouts) (fun r_2 w_3 => if p0 < r_2 then Option.bind (itr (fX6_findReading_L27 s_used s_sizes s_ways w_3) KF (p0, (12 : Int32), (0 : Int64), (0 : Int32))) (fun x4_26 => some (x4_26, w_3)) else some ((-1000000000000006 : Int64), w_3))
set_option maxHeartbeats 4000000 in
set_option maxRecDepth 100000 in
theorem kX6_findReading {l : Launch} (h0 : Nat) (a_s_sizes : Nat) (a_s_ways : Nat) (a_s_layouts : Nat) (s_used : Int32) (s_sizes : Nat → Int32) (s_ways : Nat → Int32) (s_layouts : Nat → Int32) (p0 : Int32) (r : Int64) (o_s_layouts : Nat → Int32) (hm : fX6_findReading p0 s_used s_sizes s_ways s_layouts = some (r, o_s_layouts)) : CtL l yX6_findReading wsX6_findReading ({ frames := 4, cells := 0, slots := 0, locals := 91 } : Room) [.ref h0, .int p0] [(h0, eO 4 [.ref a_s_sizes, .ref a_s_ways, .ref a_s_layouts, .int s_used]), (a_s_sizes, eI 12 s_sizes), (a_s_ways, eI 12 s_ways), (a_s_layouts, eI 169 s_layouts)] r [(h0, eO 4 [.ref a_s_sizes, .ref a_s_ways, .ref a_s_layouts, .int s_used]), (a_s_sizes, eI 12 s_sizes), (a_s_ways, eI 12 s_ways), (a_s_layouts, eI 169 o_s_layouts)] := by
  refine CtL_of (cc := cX6_findReading) (maxL := 9) (own := RX6) rfl (by decide) rfl (lv0 := [(0, .ref h0), (1, .int p0)]) rfl (Nat.le_of_ble_eq_true rfl) (fun Γ hL C hR => ?_)
  subst hL
  unfold fX6_findReading at hm
  refine V_iload_n C 1 dX6_findReading_0 rfl rfl ?_
  refine V_if_lt C 12 dX6_findReading_1 (by decide) (fun c_1 => ?_) (fun c_1 => ?_)
  · have hm := ite_t c_1 hm
    refine V_ldc2 C (v := (-1000000000000006 : Int64)) mX6_findReading_1 dX6_findReading_12 ?_
    cases hm
    exact hR _ _ dX6_findReading_15
  · have hm := ite_f c_1 hm
    refine V_iload_n C 1 dX6_findReading_4 rfl rfl ?_
    refine V_aload_n C 0 dX6_findReading_5 rfl rfl ?_
    obtain ⟨r_2, w_3, hc_4, hm⟩ := bd2 hm
    refine V_callVI C (As := []) (wr := []) (ws2 := [(h0, eO 4 [.ref a_s_sizes, .ref a_s_ways, .ref a_s_layouts, .int s_used]), (a_s_sizes, eI 12 s_sizes), (a_s_ways, eI 12 s_ways), (a_s_layouts, eI 169 w_3)]) (kX6_countReadings h0 a_s_sizes a_s_ways a_s_layouts s_used s_sizes s_ways s_layouts r_2 w_3 hc_4) gX6_findReading_X6_countReadings rfl ⟨rfl, rfl⟩ hdX6_countReadings ⟨Nat.le_of_ble_eq_true rfl, Nat.le_of_ble_eq_true rfl⟩ ⟨Nat.zero_le _, Nat.zero_le _⟩ 0 rfl rfl [0, 1, 2, 3] [] [0, 1, 2, 3] rfl rfl ⟨rfl, rfl, rfl⟩ (by decide) rfl rfl (Nat.le_of_ble_eq_true rfl) dX6_findReading_6 ?_
    refine V_icmp_lt C 16 dX6_findReading_9 (by decide) (fun c_5 => ?_) (fun c_5 => ?_)
    · have hm := ite_t c_5 hm
      refine V_iload_n C 1 dX6_findReading_16 rfl rfl ?_
      refine V_istore_n C (lv' := [(2, .int p0), (0, .ref h0), (1, .int p0)]) dX6_findReading_17 rfl (by decide) rfl ?_
      refine V_bipush C (v := (12 : Int32)) dX6_findReading_18 (by decide) ?_
      refine V_istore_n C (lv' := [(3, .int (12 : Int32)), (2, .int p0), (0, .ref h0), (1, .int p0)]) dX6_findReading_20 rfl (by decide) rfl ?_
      refine V_lconst C (v := (0 : Int64)) dX6_findReading_21 (by decide) ?_
      refine V_lstore C (lv' := [(4, .long (0 : Int64)), (3, .int (12 : Int32)), (2, .int p0), (0, .ref h0), (1, .int p0)]) dX6_findReading_22 (by decide) rfl ?_
      refine V_iconst C (v := (0 : Int32)) dX6_findReading_24 (by decide) ?_
      refine V_istore C (lv' := [(6, .int (0 : Int32)), (4, .long (0 : Int64)), (3, .int (12 : Int32)), (2, .int p0), (0, .ref h0), (1, .int p0)]) dX6_findReading_25 (by decide) rfl ?_
      obtain ⟨x4_26, hE_25, hm⟩ := bnd hm
      refine V_lv [4, 3, 2, 1, 0] rfl ?_
      refine lX6_findReading_L27 C h0 a_s_sizes a_s_ways a_s_layouts s_used s_sizes s_ways w_3 p0 (12 : Int32) (0 : Int64) (0 : Int32) KF _ hE_25 ?_
      intro q_27 hq
      cases hq
      refine V_lload C 0 dX6_findReading_115 rfl ?_
      cases hm
      exact hR _ _ dX6_findReading_117
    · have hm := ite_f c_5 hm
      refine V_ldc2 C (v := (-1000000000000006 : Int64)) mX6_findReading_1 dX6_findReading_12 ?_
      cases hm
      exact hR _ _ dX6_findReading_15
theorem hdX6_findReading : yX6_findReading.cls = RX6 ∧ yX6_findReading.cls ≠ "java/lang/invoke/MethodHandle" ∧ yX6_findReading.cls ≠ "java/lang/invoke/VarHandle" ∧ (parseMethodDescriptor yX6_findReading.desc).map (fun d => d.parameters.length) = some 1 := by decide +kernel
