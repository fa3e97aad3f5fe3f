abbrev rm_X5_within : Room := { frames := 0, cells := 0, slots := 0, locals := 0 }
set_option maxHeartbeats 4000000 in
set_option maxRecDepth 100000 in
theorem k_X5_within {l : Launch} {D : va_G} {cI cJ cZ cS cA : ClassId}   (v0 : Int32) (v1 : Int32) (v2 : Int32) (out : Int32) (hM : M_X5_within v0 v1 v2 = some out) : on_Con l yX5_within wsX5_within rm_X5_within [.int v0, .int v1, .int v2] D (on_T cI cJ cZ cS cA) [] (some (.int out)) [] := by
  unfold M_X5_within at hM
  refine on_enter (cc := cX5_within) (nL := 3) (rt := (some .boolean)) (own := RX5) (by decide +kernel) rfl rfl (Nat.le_of_ble_eq_true rfl) ?_
  intro p e s m below meth c A ls hx hb hml hr hlk hts hown hA hK hN H locs hP hD hS hl
  have hl : lv_has ls 3 [(0, .int v0), (1, .int v1), (2, .int v2)] := hl
  generalize hQ : MQ below (on_Q D (some (.int out)) [] A) _ s 0 0 A = Q
  generalize hAr : List.toArray ([.int v0, .int v1, .int v2] : List Value) = args at hts hQ ⊢
  refine lv_iload_n hx hb dX5_within_0 rfl (lv_at hl 0 rfl) ?_
  refine lv_iload_n hx hb dX5_within_1 rfl (lv_at hl 1 rfl) ?_
  refine lv_icmp_lt (tgt := 14) hx hb dX5_within_2 (by decide) (fun c_1 => ?_) (fun c_1 => ?_)
  · have hM := on_pos c_1 hM
    refine lv_iconst (v := 0) hx hb dX5_within_14 (by decide) ?_
    have hM := Option.some.inj hM
    subst hM
    rw [← hQ]
    exact on_zret hx hb hr hlk hP hD hS rfl dX5_within_15
  · have hM := on_neg c_1 hM
    refine lv_iload_n hx hb dX5_within_5 rfl (lv_at hl 0 rfl) ?_
    refine lv_iload_n hx hb dX5_within_6 rfl (lv_at hl 2 rfl) ?_
    refine lv_icmp_gt (tgt := 14) hx hb dX5_within_7 (by decide) (fun c_2 => ?_) (fun c_2 => ?_)
    · have hM := on_pos c_2 hM
      refine lv_iconst (v := 0) hx hb dX5_within_14 (by decide) ?_
      have hM := Option.some.inj hM
      subst hM
      rw [← hQ]
      exact on_zret hx hb hr hlk hP hD hS rfl dX5_within_15
    · have hM := on_neg c_2 hM
      refine lv_iconst (v := 1) hx hb dX5_within_10 (by decide) ?_
      refine lv_goto (tgt := 15) hx hb dX5_within_11 (by decide) ?_
      have hM := Option.some.inj hM
      subst hM
      rw [← hQ]
      exact on_zret hx hb hr hlk hP hD hS rfl dX5_within_15
abbrev rm_X3_clear : Room := { frames := 1, cells := 0, slots := 0, locals := 23 }
set_option maxHeartbeats 4000000 in
set_option maxRecDepth 100000 in
theorem k_X3_clear {l : Launch} {D : va_G} {cI cJ cZ cS cA : ClassId} (h_t : Nat) (h_t_numbers : Nat) (t_many : Int32) (t_numbers : Nat → Int32) (v1 : Int32) (out : Int32 × (Nat → Int32)) (hM : M_X3_clear v1 t_numbers = some out) : on_Con l yX3_clear wsX3_clear rm_X3_clear [.ref h_t, .int v1] D (on_T cI cJ cZ cS cA) [(h_t, .inr (3, [.int t_many, .ref h_t_numbers])), (h_t_numbers, .inl (cI, 3, .inl t_numbers))] none [(h_t, .inr (3, [.int out.1, .ref h_t_numbers])), (h_t_numbers, .inl (cI, 3, .inl out.2))] := by
  unfold M_X3_clear at hM
  refine on_enter (cc := cX3_clear) (nL := 2) (rt := none) (own := RX3) (by decide +kernel) rfl rfl (Nat.le_of_ble_eq_true rfl) ?_
  intro p e s m below meth c A ls hx hb hml hr hlk hts hown hA hK hN H locs hP hD hS hl
  have hl : lv_has ls 2 [(0, .ref h_t), (1, .int v1)] := hl
  generalize hQ : MQ below (on_Q D none [(h_t, .inr (3, [.int out.1, .ref h_t_numbers])), (h_t_numbers, .inl (cI, 3, .inl out.2))] A) _ s 0 0 A = Q
  generalize hAr : List.toArray ([.ref h_t, .int v1] : List Value) = args at hts hQ ⊢
  have w1 := hts (.fieldLink RX3 9 "OddNets$Shelf" "many" "I") (by decide +kernel)
  have w2 : ∀ w ∈ wsX30, w ∈ wsX3_clear := by decide +kernel
  have w3 := hts (.fieldLink RX3 15 "OddNets$Shelf" "numbers" "[I") (by decide +kernel)
  refine lv_aload_n hx hb dX3_clear_0 rfl (lv_at hl 0 rfl) ?_
  refine lv_iload_n hx hb dX3_clear_1 rfl (lv_at hl 1 rfl) ?_
  refine va_put (D := D) (ci := 3) (v := .int v1) (ty := .int) (C := RX3) (T := TX3) (N := 2) hx hb hts w2 tyX3 tyX3_ok nmX3 hown hK hP hD hS 0 rfl rfl 0 (by decide) w1 (fun _ h9 => h9) rfl (by decide +kernel) rfl rfl (Nat.le_of_ble_eq_true rfl) dX3_clear_2 (fun H locs hP hD hS => ?_)
  have hP : va_P D vwCl [(h_t, .inr (3, [.int v1, .ref h_t_numbers])), (h_t_numbers, .inl (cI, 3, .inl t_numbers))] H := hP
  have hD : va_D A [(h_t, .inr (3, [.int v1, .ref h_t_numbers])), (h_t_numbers, .inl (cI, 3, .inl t_numbers))] := hD
  refine lv_aload_n hx hb dX3_clear_5 rfl (lv_at hl 0 rfl) ?_
  refine va_get (D := D) (ci := 3) (v := .ref h_t_numbers) (C := RX3) (T := TX3) (N := 2) hx hb hts w2 hown hK hP 0 rfl rfl 1 (by decide) w3 (fun _ h9 => h9) rfl dX3_clear_6 ?_
  refine lv_iconst (v := 0) hx hb dX3_clear_9 (by decide) ?_
  obtain ⟨q_1, hq_1, hM⟩ := on_bind hM
  refine on_callS (rest := []) (As := [.ref h_t_numbers, .int (0 : Int32)]) (st1 := []) (wc := [(h_t_numbers, .inl (cI, 3, .inl t_numbers))]) (wr := [(h_t, .inr (3, [.int v1, .ref h_t_numbers]))]) (wc' := [(h_t_numbers, .inl (cI, 3, .inl q_1))]) (wf := [(h_t, .inr (3, [.int v1, .ref h_t_numbers])), (h_t_numbers, .inl (cI, 3, .inl q_1))]) (rt := none) ⟨hx, hb, hml, hown, hts⟩ (k_J7_fill_53178 h_t_numbers 3 t_numbers (0 : Int32) q_1 hq_1) (va_cwS 2 hts gX3_clear_J7_fill_53178 rfl rfl rfl hdJ7_fill_53178 ⟨(Nat.le_of_ble_eq_true rfl), (Nat.le_of_ble_eq_true rfl)⟩) hK hN hP hD hS hA [1] [0] [0, 1] rfl rfl rfl rfl (by decide) rfl rfl rfl hl.1 rfl (Nat.le_of_ble_eq_true rfl) rfl dX3_clear_10 ⟨Nat.zero_le _, Nat.zero_le _⟩ (fun H locs hP hD hS => ?_)
  have hM := Option.some.inj hM
  subst hM
  rw [← hQ]
  exact on_vret hx hb hr hlk hP hD hS dX3_clear_13
abbrev rm_X5_nodes : Room := { frames := 2, cells := 0, slots := 0, locals := 44 }
set_option maxHeartbeats 4000000 in
set_option maxRecDepth 100000 in
theorem k_X5_nodes {l : Launch} {D : va_G} {cI cJ cZ cS cA : ClassId} (h_t : Nat) (h_t_now : Nat) (h_t_images : Nat) (h_t_pad : Nat) (h_t_net : Nat) (h_t_second : Nat) (h_t_renumbering : Nat) (h_t_table : Nat) (h_t_marks : Nat) (h_t_now_numbers : Nat) (t_now_many : Int32) (t_now_numbers : Nat → Int32) (v1 : Int32) (out : Int32 × Int32 × (Nat → Int32)) (hM : M_X5_nodes v1 t_now_many t_now_numbers = some out) : on_Con l yX5_nodes wsX5_nodes rm_X5_nodes [.ref h_t, .int v1] D (on_T cI cJ cZ cS cA) [(h_t, .inr (5, [.ref h_t_now, .ref h_t_images, .ref h_t_pad, .ref h_t_net, .ref h_t_second, .ref h_t_renumbering, .ref h_t_table, .ref h_t_marks])), (h_t_now, .inr (3, [.int t_now_many, .ref h_t_now_numbers])), (h_t_now_numbers, .inl (cI, 3, .inl t_now_numbers))] (some (.int out.1)) [(h_t, .inr (5, [.ref h_t_now, .ref h_t_images, .ref h_t_pad, .ref h_t_net, .ref h_t_second, .ref h_t_renumbering, .ref h_t_table, .ref h_t_marks])), (h_t_now, .inr (3, [.int out.2.1, .ref h_t_now_numbers])), (h_t_now_numbers, .inl (cI, 3, .inl out.2.2))] := by
  unfold M_X5_nodes at hM
  refine on_enter (cc := cX5_nodes) (nL := 3) (rt := (some .int)) (own := RX5) (by decide +kernel) rfl rfl (Nat.le_of_ble_eq_true rfl) ?_
  intro p e s m below meth c A ls hx hb hml hr hlk hts hown hA hK hN H locs hP hD hS hl
  have hl : lv_has ls 3 [(0, .ref h_t), (1, .int v1)] := hl
  generalize hQ : MQ below (on_Q D (some (.int out.1)) [(h_t, .inr (5, [.ref h_t_now, .ref h_t_images, .ref h_t_pad, .ref h_t_net, .ref h_t_second, .ref h_t_renumbering, .ref h_t_table, .ref h_t_marks])), (h_t_now, .inr (3, [.int out.2.1, .ref h_t_now_numbers])), (h_t_now_numbers, .inl (cI, 3, .inl out.2.2))] A) _ s 0 0 A = Q
  generalize hAr : List.toArray ([.ref h_t, .int v1] : List Value) = args at hts hQ ⊢
  have w1 := hts (.fieldLink RX5 10 "OddNets" "now" "LOddNets$Shelf;") (by decide +kernel)
  have w2 : ∀ w ∈ wsX50, w ∈ wsX5_nodes := by decide +kernel
  have w3 : ∀ w ∈ wsX30, w ∈ wsX5_nodes := by decide +kernel
  have w4 := hts (.initialized RX3) (by decide +kernel)
  have w5 := hts (.instanceMethod yX3_clear) (by decide +kernel)
  have w6 := hts (.selects RX3 yX3_clear yX3_clear) (by decide +kernel)
  refine lv_iload_n hx hb dX5_nodes_0 rfl (lv_at hl 1 rfl) ?_
  refine lv_iconst (v := 3) hx hb dX5_nodes_1 (by decide) ?_
  refine lv_bipush (v := 7) hx hb dX5_nodes_2 (by decide) ?_
  obtain ⟨q_1, hq_1, hM⟩ := on_bind hM
  refine on_callS0 (rest := []) (As := [.int v1, .int (3 : Int32), .int (7 : Int32)]) (st1 := [.int q_1]) ⟨hx, hb, hml, hown, hts⟩ (k_X5_within v1 (3 : Int32) (7 : Int32) q_1 hq_1) (va_cwS 3 hts gX5_nodes_X5_within rfl rfl rfl hdX5_within ⟨(Nat.le_of_ble_eq_true rfl), (Nat.le_of_ble_eq_true rfl)⟩) hK hN hP hD hS hA rfl hl.1 rfl (Nat.le_of_ble_eq_true rfl) rfl dX5_nodes_4 ⟨Nat.zero_le _, Nat.zero_le _⟩ (fun H locs hP hS => ?_)
  refine lv_if_ne (tgt := 13) hx hb dX5_nodes_7 (by decide) (fun c_2 => ?_) (fun c_2 => ?_)
  · have hM := on_neg c_2 hM
    refine lv_aload_n hx hb dX5_nodes_13 rfl (lv_at hl 0 rfl) ?_
    refine va_get (D := D) (ci := 5) (v := .ref h_t_now) (C := RX5) (T := TX5) (N := 8) hx hb hts w2 hown hK hP 0 rfl rfl 0 (by decide) w1 (fun _ h9 => h9) rfl dX5_nodes_14 ?_
    refine va_getN (D := D) (ci := 3) (v := .int t_now_many) (C := RX3) (T := TX3) (N := 2) hx hb hts w3 hown hK hP 1 rfl rfl 0 (by decide) (va_Nw.use rfl (hN _ (List.mem_of_getElem? (i := 0) rfl))) (fun _ h9 => h9) rfl dX5_nodes_17 ?_
    refine lv_istore_n (lv' := [(2, .int t_now_many), (0, .ref h_t), (1, .int v1)]) hx hb dX5_nodes_20 rfl hl (by decide) rfl (fun ls hl => ?_)
    refine lv_aload_n hx hb dX5_nodes_21 rfl (lv_at hl 1 rfl) ?_
    refine va_get (D := D) (ci := 5) (v := .ref h_t_now) (C := RX5) (T := TX5) (N := 8) hx hb hts w2 hown hK hP 0 rfl rfl 0 (by decide) w1 (fun _ h9 => h9) rfl dX5_nodes_22 ?_
    refine lv_iload_n hx hb dX5_nodes_25 rfl (lv_at hl 2 rfl) ?_
    obtain ⟨q_3, hq_3, hM⟩ := on_bind hM
    refine on_callVN (rest := []) (As := [.int v1]) (st1 := []) (C := RX3) (ci := 3) (q0 := 1) (wc := [(h_t_now, .inr (3, [.int t_now_many, .ref h_t_now_numbers])), (h_t_now_numbers, .inl (cI, 3, .inl t_now_numbers))]) (wr := [(h_t, .inr (5, [.ref h_t_now, .ref h_t_images, .ref h_t_pad, .ref h_t_net, .ref h_t_second, .ref h_t_renumbering, .ref h_t_table, .ref h_t_marks]))]) (wc' := [(h_t_now, .inr (3, [.int q_3.1, .ref h_t_now_numbers])), (h_t_now_numbers, .inl (cI, 3, .inl q_3.2))]) (wf := [(h_t, .inr (5, [.ref h_t_now, .ref h_t_images, .ref h_t_pad, .ref h_t_net, .ref h_t_second, .ref h_t_renumbering, .ref h_t_table, .ref h_t_marks])), (h_t_now, .inr (3, [.int q_3.1, .ref h_t_now_numbers])), (h_t_now_numbers, .inl (cI, 3, .inl q_3.2))]) (rt := none) ⟨hx, hb, hml, hown, hts⟩ (k_X3_clear h_t_now h_t_now_numbers t_now_many t_now_numbers v1 q_3 hq_3) ⟨va_cnB 1 hts gX5_nodes_X3_clear_n55 rfl rfl rfl (hN _ (List.mem_of_getElem? (i := 14) rfl)) w4 hdX3_clear ⟨(Nat.le_of_ble_eq_true rfl), (Nat.le_of_ble_eq_true rfl)⟩, w5, w6⟩ hK hN hP hD hS hA [1, 2] [0] [0, 1, 2] rfl rfl rfl rfl (by decide) rfl rfl rfl rfl rfl rfl hl.1 rfl (Nat.le_of_ble_eq_true rfl) rfl dX5_nodes_26 ⟨Nat.zero_le _, Nat.zero_le _⟩ (fun H locs hP hD hS => ?_)
    refine lv_iload_n hx hb dX5_nodes_29 rfl (lv_at hl 0 rfl) ?_
    have hM := Option.some.inj hM
    subst hM
    rw [← hQ]
    exact on_iret hx hb hr hlk hP hD hS dX5_nodes_30
  · have hM := on_pos c_2 hM
    refine lv_bipush (v := -2) hx hb dX5_nodes_10 (by decide) ?_
    have hM := Option.some.inj hM
    subst hM
    rw [← hQ]
    exact on_iret hx hb hr hlk hP hD hS dX5_nodes_12
abbrev rm_X5_isSlot : Room := { frames := 1, cells := 0, slots := 0, locals := 22 }
set_option maxHeartbeats 4000000 in
set_option maxRecDepth 100000 in
theorem k_X5_isSlot {l : Launch} {D : va_G} {cI cJ cZ cS cA : ClassId}   (v0 : Int32) (out : Int32) (hM : M_X5_isSlot v0 = some out) : on_Con l yX5_isSlot wsX5_isSlot rm_X5_isSlot [.int v0] D (on_T cI cJ cZ cS cA) [] (some (.int out)) [] := by
  unfold M_X5_isSlot at hM
  refine on_enter (cc := cX5_isSlot) (nL := 1) (rt := (some .boolean)) (own := RX5) (by decide +kernel) rfl rfl (Nat.le_of_ble_eq_true rfl) ?_
  intro p e s m below meth c A ls hx hb hml hr hlk hts hown hA hK hN H locs hP hD hS hl
  have hl : lv_has ls 1 [(0, .int v0)] := hl
  generalize hQ : MQ below (on_Q D (some (.int out)) [] A) _ s 0 0 A = Q
  generalize hAr : List.toArray ([.int v0] : List Value) = args at hts hQ ⊢
  refine lv_iload_n hx hb dX5_isSlot_0 rfl (lv_at hl 0 rfl) ?_
  refine lv_iconst (v := 0) hx hb dX5_isSlot_1 (by decide) ?_
  refine lv_iconst (v := 2) hx hb dX5_isSlot_2 (by decide) ?_
  obtain ⟨q_1, hq_1, hM⟩ := on_bind hM
  refine on_callS0 (rest := []) (As := [.int v0, .int (0 : Int32), .int (2 : Int32)]) (st1 := [.int q_1]) ⟨hx, hb, hml, hown, hts⟩ (k_X5_within v0 (0 : Int32) (2 : Int32) q_1 hq_1) (va_cwS 3 hts gX5_isSlot_X5_within rfl rfl rfl hdX5_within ⟨(Nat.le_of_ble_eq_true rfl), (Nat.le_of_ble_eq_true rfl)⟩) hK hN hP hD hS hA rfl hl.1 rfl (Nat.le_of_ble_eq_true rfl) rfl dX5_isSlot_3 ⟨Nat.zero_le _, Nat.zero_le _⟩ (fun H locs hP hS => ?_)
  obtain ⟨g_2, hM⟩ := on_gdE hM
  have hM := Option.some.inj hM
  subst hM
  rw [← hQ]
  exact on_zret hx hb hr hlk hP hD hS g_2 dX5_isSlot_6
abbrev rm_X5_isNode : Room := { frames := 1, cells := 0, slots := 0, locals := 22 }
set_option maxHeartbeats 4000000 in
set_option maxRecDepth 100000 in
theorem k_X5_isNode {l : Launch} {D : va_G} {cI cJ cZ cS cA : ClassId} (h_t : Nat) (h_t_now : Nat) (h_t_images : Nat) (h_t_pad : Nat) (h_t_net : Nat) (h_t_second : Nat) (h_t_renumbering : Nat) (h_t_table : Nat) (h_t_marks : Nat) (h_t_now_numbers : Nat) (t_now_many : Int32) (v1 : Int32) (out : Int32) (hM : M_X5_isNode v1 t_now_many = some out) : on_Con l yX5_isNode wsX5_isNode rm_X5_isNode [.ref h_t, .int v1] D (on_T cI cJ cZ cS cA) [(h_t, .inr (5, [.ref h_t_now, .ref h_t_images, .ref h_t_pad, .ref h_t_net, .ref h_t_second, .ref h_t_renumbering, .ref h_t_table, .ref h_t_marks])), (h_t_now, .inr (3, [.int t_now_many, .ref h_t_now_numbers]))] (some (.int out)) [(h_t, .inr (5, [.ref h_t_now, .ref h_t_images, .ref h_t_pad, .ref h_t_net, .ref h_t_second, .ref h_t_renumbering, .ref h_t_table, .ref h_t_marks])), (h_t_now, .inr (3, [.int t_now_many, .ref h_t_now_numbers]))] := by
  unfold M_X5_isNode at hM
  refine on_enter (cc := cX5_isNode) (nL := 2) (rt := (some .boolean)) (own := RX5) (by decide +kernel) rfl rfl (Nat.le_of_ble_eq_true rfl) ?_
  intro p e s m below meth c A ls hx hb hml hr hlk hts hown hA hK hN H locs hP hD hS hl
  have hl : lv_has ls 2 [(0, .ref h_t), (1, .int v1)] := hl
  generalize hQ : MQ below (on_Q D (some (.int out)) [(h_t, .inr (5, [.ref h_t_now, .ref h_t_images, .ref h_t_pad, .ref h_t_net, .ref h_t_second, .ref h_t_renumbering, .ref h_t_table, .ref h_t_marks])), (h_t_now, .inr (3, [.int t_now_many, .ref h_t_now_numbers]))] A) _ s 0 0 A = Q
  generalize hAr : List.toArray ([.ref h_t, .int v1] : List Value) = args at hts hQ ⊢
  have w1 := hts (.fieldLink RX5 10 "OddNets" "now" "LOddNets$Shelf;") (by decide +kernel)
  have w2 : ∀ w ∈ wsX50, w ∈ wsX5_isNode := by decide +kernel
  have w3 : ∀ w ∈ wsX30, w ∈ wsX5_isNode := by decide +kernel
  refine lv_iload_n hx hb dX5_isNode_0 rfl (lv_at hl 1 rfl) ?_
  refine lv_iconst (v := 0) hx hb dX5_isNode_1 (by decide) ?_
  refine lv_aload_n hx hb dX5_isNode_2 rfl (lv_at hl 0 rfl) ?_
  refine va_get (D := D) (ci := 5) (v := .ref h_t_now) (C := RX5) (T := TX5) (N := 8) hx hb hts w2 hown hK hP 0 rfl rfl 0 (by decide) w1 (fun _ h9 => h9) rfl dX5_isNode_3 ?_
  refine va_getN (D := D) (ci := 3) (v := .int t_now_many) (C := RX3) (T := TX3) (N := 2) hx hb hts w3 hown hK hP 1 rfl rfl 0 (by decide) (va_Nw.use rfl (hN _ (List.mem_of_getElem? (i := 0) rfl))) (fun _ h9 => h9) rfl dX5_isNode_6 ?_
  refine lv_iconst (v := 1) hx hb dX5_isNode_9 (by decide) ?_
  refine lv_isub hx hb dX5_isNode_10 ?_
  obtain ⟨q_1, hq_1, hM⟩ := on_bind hM
  refine on_callS0 (rest := []) (As := [.int v1, .int (0 : Int32), .int (t_now_many - (1 : Int32))]) (st1 := [.int q_1]) ⟨hx, hb, hml, hown, hts⟩ (k_X5_within v1 (0 : Int32) (t_now_many - (1 : Int32)) q_1 hq_1) (va_cwS 3 hts gX5_isNode_X5_within rfl rfl rfl hdX5_within ⟨(Nat.le_of_ble_eq_true rfl), (Nat.le_of_ble_eq_true rfl)⟩) hK hN hP hD hS hA rfl hl.1 rfl (Nat.le_of_ble_eq_true rfl) rfl dX5_isNode_11 ⟨Nat.zero_le _, Nat.zero_le _⟩ (fun H locs hP hS => ?_)
  obtain ⟨g_2, hM⟩ := on_gdE hM
  have hM := Option.some.inj hM
  subst hM
  rw [← hQ]
  exact on_zret hx hb hr hlk hP hD hS g_2 dX5_isNode_14
abbrev rm_X0_clear : Room := { frames := 1, cells := 0, slots := 0, locals := 23 }
set_option maxHeartbeats 4000000 in
set_option maxRecDepth 100000 in
theorem k_X0_clear {l : Launch} {D : va_G} {cI cJ cZ cS cA : ClassId} (h_t : Nat) (h_t_rows : Nat) (t_many : Int32) (t_rows : Nat → Int32) (v1 : Int32) (out : Int32 × (Nat → Int32)) (hM : M_X0_clear v1 t_rows = some out) : on_Con l yX0_clear wsX0_clear rm_X0_clear [.ref h_t, .int v1] D (on_T cI cJ cZ cS cA) [(h_t, .inr (0, [.int t_many, .ref h_t_rows])), (h_t_rows, .inl (cI, 7, .inl t_rows))] none [(h_t, .inr (0, [.int out.1, .ref h_t_rows])), (h_t_rows, .inl (cI, 7, .inl out.2))] := by
  unfold M_X0_clear at hM
  refine on_enter (cc := cX0_clear) (nL := 2) (rt := none) (own := RX0) (by decide +kernel) rfl rfl (Nat.le_of_ble_eq_true rfl) ?_
  intro p e s m below meth c A ls hx hb hml hr hlk hts hown hA hK hN H locs hP hD hS hl
  have hl : lv_has ls 2 [(0, .ref h_t), (1, .int v1)] := hl
  generalize hQ : MQ below (on_Q D none [(h_t, .inr (0, [.int out.1, .ref h_t_rows])), (h_t_rows, .inl (cI, 7, .inl out.2))] A) _ s 0 0 A = Q
  generalize hAr : List.toArray ([.ref h_t, .int v1] : List Value) = args at hts hQ ⊢
  have w1 := hts (.fieldLink RX0 9 "OddNets$Net" "many" "I") (by decide +kernel)
  have w2 : ∀ w ∈ wsX00, w ∈ wsX0_clear := by decide +kernel
  have w3 := hts (.fieldLink RX0 15 "OddNets$Net" "rows" "[I") (by decide +kernel)
  refine lv_aload_n hx hb dX0_clear_0 rfl (lv_at hl 0 rfl) ?_
  refine lv_iload_n hx hb dX0_clear_1 rfl (lv_at hl 1 rfl) ?_
  refine va_put (D := D) (ci := 0) (v := .int v1) (ty := .int) (C := RX0) (T := TX0) (N := 2) hx hb hts w2 tyX0 tyX0_ok nmX0 hown hK hP hD hS 0 rfl rfl 0 (by decide) w1 (fun _ h9 => h9) rfl (by decide +kernel) rfl rfl (Nat.le_of_ble_eq_true rfl) dX0_clear_2 (fun H locs hP hD hS => ?_)
  have hP : va_P D vwCl [(h_t, .inr (0, [.int v1, .ref h_t_rows])), (h_t_rows, .inl (cI, 7, .inl t_rows))] H := hP
  have hD : va_D A [(h_t, .inr (0, [.int v1, .ref h_t_rows])), (h_t_rows, .inl (cI, 7, .inl t_rows))] := hD
  refine lv_aload_n hx hb dX0_clear_5 rfl (lv_at hl 0 rfl) ?_
  refine va_get (D := D) (ci := 0) (v := .ref h_t_rows) (C := RX0) (T := TX0) (N := 2) hx hb hts w2 hown hK hP 0 rfl rfl 1 (by decide) w3 (fun _ h9 => h9) rfl dX0_clear_6 ?_
  refine lv_iconst (v := 0) hx hb dX0_clear_9 (by decide) ?_
  obtain ⟨q_1, hq_1, hM⟩ := on_bind hM
  refine on_callS (rest := []) (As := [.ref h_t_rows, .int (0 : Int32)]) (st1 := []) (wc := [(h_t_rows, .inl (cI, 7, .inl t_rows))]) (wr := [(h_t, .inr (0, [.int v1, .ref h_t_rows]))]) (wc' := [(h_t_rows, .inl (cI, 7, .inl q_1))]) (wf := [(h_t, .inr (0, [.int v1, .ref h_t_rows])), (h_t_rows, .inl (cI, 7, .inl q_1))]) (rt := none) ⟨hx, hb, hml, hown, hts⟩ (k_J7_fill_53178 h_t_rows 7 t_rows (0 : Int32) q_1 hq_1) (va_cwS 2 hts gX0_clear_J7_fill_53178 rfl rfl rfl hdJ7_fill_53178 ⟨(Nat.le_of_ble_eq_true rfl), (Nat.le_of_ble_eq_true rfl)⟩) hK hN hP hD hS hA [1] [0] [0, 1] rfl rfl rfl rfl (by decide) rfl rfl rfl hl.1 rfl (Nat.le_of_ble_eq_true rfl) rfl dX0_clear_10 ⟨Nat.zero_le _, Nat.zero_le _⟩ (fun H locs hP hD hS => ?_)
  have hM := Option.some.inj hM
  subst hM
  rw [← hQ]
  exact on_vret hx hb hr hlk hP hD hS dX0_clear_13
abbrev rm_X5_pairsOf : Room := { frames := 0, cells := 0, slots := 0, locals := 0 }
set_option maxHeartbeats 4000000 in
set_option maxRecDepth 100000 in
theorem k_X5_pairsOf {l : Launch} {D : va_G} {cI cJ cZ cS cA : ClassId}   (v0 : Int32) (out : Int32) (hM : M_X5_pairsOf v0 = some out) : on_Con l yX5_pairsOf wsX5_pairsOf rm_X5_pairsOf [.int v0] D (on_T cI cJ cZ cS cA) [] (some (.int out)) [] := by
  unfold M_X5_pairsOf at hM
  refine on_enter (cc := cX5_pairsOf) (nL := 1) (rt := (some .int)) (own := RX5) (by decide +kernel) rfl rfl (Nat.le_of_ble_eq_true rfl) ?_
  intro p e s m below meth c A ls hx hb hml hr hlk hts hown hA hK hN H locs hP hD hS hl
  have hl : lv_has ls 1 [(0, .int v0)] := hl
  generalize hQ : MQ below (on_Q D (some (.int out)) [] A) _ s 0 0 A = Q
  generalize hAr : List.toArray ([.int v0] : List Value) = args at hts hQ ⊢
  refine lv_iload_n hx hb dX5_pairsOf_0 rfl (lv_at hl 0 rfl) ?_
  refine lv_iload_n hx hb dX5_pairsOf_1 rfl (lv_at hl 0 rfl) ?_
  refine lv_iconst (v := 1) hx hb dX5_pairsOf_2 (by decide) ?_
  refine lv_isub hx hb dX5_pairsOf_3 ?_
  refine lv_imul hx hb dX5_pairsOf_4 ?_
  refine lv_iconst (v := 2) hx hb dX5_pairsOf_5 (by decide) ?_
  refine lv_idiv hx hb dX5_pairsOf_6 (by decide) ?_
  have hM := Option.some.inj hM
  subst hM
  rw [← hQ]
  exact on_iret hx hb hr hlk hP hD hS dX5_pairsOf_7
abbrev rm_X0_connect : Room := { frames := 0, cells := 0, slots := 0, locals := 0 }
set_option maxHeartbeats 4000000 in
set_option maxRecDepth 100000 in
theorem k_X0_connect {l : Launch} {D : va_G} {cI cJ cZ cS cA : ClassId} (h_t : Nat) (h_t_rows : Nat) (t_many : Int32) (t_rows : Nat → Int32) (v1 : Int32) (v2 : Int32) (v3 : Int32) (out : (Nat → Int32)) (hM : M_X0_connect v1 v2 v3 t_rows = some out) : on_Con l yX0_connect wsX0_connect rm_X0_connect [.ref h_t, .int v1, .int v2, .int v3] D (on_T cI cJ cZ cS cA) [(h_t, .inr (0, [.int t_many, .ref h_t_rows])), (h_t_rows, .inl (cI, 7, .inl t_rows))] none [(h_t, .inr (0, [.int t_many, .ref h_t_rows])), (h_t_rows, .inl (cI, 7, .inl out))] := by
  unfold M_X0_connect at hM
  refine on_enter (cc := cX0_connect) (nL := 4) (rt := none) (own := RX0) (by decide +kernel) rfl rfl (Nat.le_of_ble_eq_true rfl) ?_
  intro p e s m below meth c A ls hx hb hml hr hlk hts hown hA hK hN H locs hP hD hS hl
  have hl : lv_has ls 4 [(0, .ref h_t), (1, .int v1), (2, .int v2), (3, .int v3)] := hl
  generalize hQ : MQ below (on_Q D none [(h_t, .inr (0, [.int t_many, .ref h_t_rows])), (h_t_rows, .inl (cI, 7, .inl out))] A) _ s 0 0 A = Q
  generalize hAr : List.toArray ([.ref h_t, .int v1, .int v2, .int v3] : List Value) = args at hts hQ ⊢
  have w1 := hts (.fieldLink RX0 15 "OddNets$Net" "rows" "[I") (by decide +kernel)
  have w2 : ∀ w ∈ wsX00, w ∈ wsX0_connect := by decide +kernel
  refine lv_iload_n hx hb dX0_connect_0 rfl (lv_at hl 3 rfl) ?_
  refine lv_if_eq (tgt := 31) hx hb dX0_connect_1 (by decide) (fun c_1 => ?_) (fun c_1 => ?_)
  · have hM := on_pos c_1 hM
    refine lv_aload_n hx hb dX0_connect_31 rfl (lv_at hl 0 rfl) ?_
    refine va_get (D := D) (ci := 0) (v := .ref h_t_rows) (C := RX0) (T := TX0) (N := 2) hx hb hts w2 hown hK hP 0 rfl rfl 1 (by decide) w1 (fun _ h9 => h9) rfl dX0_connect_32 ?_
    refine lv_iload_n hx hb dX0_connect_35 rfl (lv_at hl 1 rfl) ?_
    refine lv_dup2_11 hx hb dX0_connect_36 rfl rfl ?_
    obtain ⟨g_2, hM⟩ := on_gdE hM
    refine va_iald hx hb hK hP 1 0 rfl rfl (on_ixE g_2) dX0_connect_37 ?_
    refine lv_iconst (v := 1) hx hb dX0_connect_38 (by decide) ?_
    refine lv_iload_n hx hb dX0_connect_39 rfl (lv_at hl 2 rfl) ?_
    refine lv_ishl hx hb dX0_connect_40 ?_
    refine lv_iconst (v := -1) hx hb dX0_connect_41 (by decide) ?_
    refine lv_ixor hx hb dX0_connect_42 ?_
    refine lv_iand hx hb dX0_connect_43 ?_
    obtain ⟨g_3, hM⟩ := on_gdE hM
    refine va_iast hx hb hK hP hD hS 1 0 rfl rfl (on_ixE g_3) dX0_connect_44 (fun H locs hP hD hS => ?_)
    have hP : va_P D vwCl [(h_t, .inr (0, [.int t_many, .ref h_t_rows])), (h_t_rows, .inl (cI, 7, .inl (upd t_rows (Int32.toNatClampNeg v1) ((t_rows (Int32.toNatClampNeg v1)) &&& (((1 : Int32) <<< (v2 &&& 31)) ^^^ (-1 : Int32))))))] H := hP
    have hD : va_D A [(h_t, .inr (0, [.int t_many, .ref h_t_rows])), (h_t_rows, .inl (cI, 7, .inl (upd t_rows (Int32.toNatClampNeg v1) ((t_rows (Int32.toNatClampNeg v1)) &&& (((1 : Int32) <<< (v2 &&& 31)) ^^^ (-1 : Int32))))))] := hD
    refine lv_aload_n hx hb dX0_connect_45 rfl (lv_at hl 0 rfl) ?_
    refine va_get (D := D) (ci := 0) (v := .ref h_t_rows) (C := RX0) (T := TX0) (N := 2) hx hb hts w2 hown hK hP 0 rfl rfl 1 (by decide) w1 (fun _ h9 => h9) rfl dX0_connect_46 ?_
    refine lv_iload_n hx hb dX0_connect_49 rfl (lv_at hl 2 rfl) ?_
    refine lv_dup2_11 hx hb dX0_connect_50 rfl rfl ?_
    obtain ⟨g_4, hM⟩ := on_gdE hM
    refine va_iald hx hb hK hP 1 0 rfl rfl (on_ixE g_4) dX0_connect_51 ?_
    refine lv_iconst (v := 1) hx hb dX0_connect_52 (by decide) ?_
    refine lv_iload_n hx hb dX0_connect_53 rfl (lv_at hl 1 rfl) ?_
    refine lv_ishl hx hb dX0_connect_54 ?_
    refine lv_iconst (v := -1) hx hb dX0_connect_55 (by decide) ?_
    refine lv_ixor hx hb dX0_connect_56 ?_
    refine lv_iand hx hb dX0_connect_57 ?_
    obtain ⟨g_5, hM⟩ := on_gdE hM
    refine va_iast hx hb hK hP hD hS 1 0 rfl rfl (on_ixE g_5) dX0_connect_58 (fun H locs hP hD hS => ?_)
    have hP : va_P D vwCl [(h_t, .inr (0, [.int t_many, .ref h_t_rows])), (h_t_rows, .inl (cI, 7, .inl (upd (upd t_rows (Int32.toNatClampNeg v1) ((t_rows (Int32.toNatClampNeg v1)) &&& (((1 : Int32) <<< (v2 &&& 31)) ^^^ (-1 : Int32)))) (Int32.toNatClampNeg v2) (((upd t_rows (Int32.toNatClampNeg v1) ((t_rows (Int32.toNatClampNeg v1)) &&& (((1 : Int32) <<< (v2 &&& 31)) ^^^ (-1 : Int32)))) (Int32.toNatClampNeg v2)) &&& (((1 : Int32) <<< (v1 &&& 31)) ^^^ (-1 : Int32))))))] H := hP
    have hD : va_D A [(h_t, .inr (0, [.int t_many, .ref h_t_rows])), (h_t_rows, .inl (cI, 7, .inl (upd (upd t_rows (Int32.toNatClampNeg v1) ((t_rows (Int32.toNatClampNeg v1)) &&& (((1 : Int32) <<< (v2 &&& 31)) ^^^ (-1 : Int32)))) (Int32.toNatClampNeg v2) (((upd t_rows (Int32.toNatClampNeg v1) ((t_rows (Int32.toNatClampNeg v1)) &&& (((1 : Int32) <<< (v2 &&& 31)) ^^^ (-1 : Int32)))) (Int32.toNatClampNeg v2)) &&& (((1 : Int32) <<< (v1 &&& 31)) ^^^ (-1 : Int32))))))] := hD
    have hM := Option.some.inj hM
    subst hM
    rw [← hQ]
    exact on_vret hx hb hr hlk hP hD hS dX0_connect_59
  · have hM := on_neg c_1 hM
    refine lv_aload_n hx hb dX0_connect_4 rfl (lv_at hl 0 rfl) ?_
    refine va_get (D := D) (ci := 0) (v := .ref h_t_rows) (C := RX0) (T := TX0) (N := 2) hx hb hts w2 hown hK hP 0 rfl rfl 1 (by decide) w1 (fun _ h9 => h9) rfl dX0_connect_5 ?_
    refine lv_iload_n hx hb dX0_connect_8 rfl (lv_at hl 1 rfl) ?_
    refine lv_dup2_11 hx hb dX0_connect_9 rfl rfl ?_
    obtain ⟨g_6, hM⟩ := on_gdE hM
    refine va_iald hx hb hK hP 1 0 rfl rfl (on_ixE g_6) dX0_connect_10 ?_
    refine lv_iconst (v := 1) hx hb dX0_connect_11 (by decide) ?_
    refine lv_iload_n hx hb dX0_connect_12 rfl (lv_at hl 2 rfl) ?_
    refine lv_ishl hx hb dX0_connect_13 ?_
    refine lv_ior hx hb dX0_connect_14 ?_
    obtain ⟨g_7, hM⟩ := on_gdE hM
    refine va_iast hx hb hK hP hD hS 1 0 rfl rfl (on_ixE g_7) dX0_connect_15 (fun H locs hP hD hS => ?_)
    have hP : va_P D vwCl [(h_t, .inr (0, [.int t_many, .ref h_t_rows])), (h_t_rows, .inl (cI, 7, .inl (upd t_rows (Int32.toNatClampNeg v1) ((t_rows (Int32.toNatClampNeg v1)) ||| ((1 : Int32) <<< (v2 &&& 31))))))] H := hP
    have hD : va_D A [(h_t, .inr (0, [.int t_many, .ref h_t_rows])), (h_t_rows, .inl (cI, 7, .inl (upd t_rows (Int32.toNatClampNeg v1) ((t_rows (Int32.toNatClampNeg v1)) ||| ((1 : Int32) <<< (v2 &&& 31))))))] := hD
    refine lv_aload_n hx hb dX0_connect_16 rfl (lv_at hl 0 rfl) ?_
    refine va_get (D := D) (ci := 0) (v := .ref h_t_rows) (C := RX0) (T := TX0) (N := 2) hx hb hts w2 hown hK hP 0 rfl rfl 1 (by decide) w1 (fun _ h9 => h9) rfl dX0_connect_17 ?_
    refine lv_iload_n hx hb dX0_connect_20 rfl (lv_at hl 2 rfl) ?_
    refine lv_dup2_11 hx hb dX0_connect_21 rfl rfl ?_
    obtain ⟨g_8, hM⟩ := on_gdE hM
    refine va_iald hx hb hK hP 1 0 rfl rfl (on_ixE g_8) dX0_connect_22 ?_
    refine lv_iconst (v := 1) hx hb dX0_connect_23 (by decide) ?_
    refine lv_iload_n hx hb dX0_connect_24 rfl (lv_at hl 1 rfl) ?_
    refine lv_ishl hx hb dX0_connect_25 ?_
    refine lv_ior hx hb dX0_connect_26 ?_
    obtain ⟨g_9, hM⟩ := on_gdE hM
    refine va_iast hx hb hK hP hD hS 1 0 rfl rfl (on_ixE g_9) dX0_connect_27 (fun H locs hP hD hS => ?_)
    have hP : va_P D vwCl [(h_t, .inr (0, [.int t_many, .ref h_t_rows])), (h_t_rows, .inl (cI, 7, .inl (upd (upd t_rows (Int32.toNatClampNeg v1) ((t_rows (Int32.toNatClampNeg v1)) ||| ((1 : Int32) <<< (v2 &&& 31)))) (Int32.toNatClampNeg v2) (((upd t_rows (Int32.toNatClampNeg v1) ((t_rows (Int32.toNatClampNeg v1)) ||| ((1 : Int32) <<< (v2 &&& 31)))) (Int32.toNatClampNeg v2)) ||| ((1 : Int32) <<< (v1 &&& 31))))))] H := hP
    have hD : va_D A [(h_t, .inr (0, [.int t_many, .ref h_t_rows])), (h_t_rows, .inl (cI, 7, .inl (upd (upd t_rows (Int32.toNatClampNeg v1) ((t_rows (Int32.toNatClampNeg v1)) ||| ((1 : Int32) <<< (v2 &&& 31)))) (Int32.toNatClampNeg v2) (((upd t_rows (Int32.toNatClampNeg v1) ((t_rows (Int32.toNatClampNeg v1)) ||| ((1 : Int32) <<< (v2 &&& 31)))) (Int32.toNatClampNeg v2)) ||| ((1 : Int32) <<< (v1 &&& 31))))))] := hD
    refine lv_goto (tgt := 59) hx hb dX0_connect_28 (by decide) ?_
    have hM := Option.some.inj hM
    subst hM
    rw [← hQ]
    exact on_vret hx hb hr hlk hP hD hS dX0_connect_59
abbrev rm_X0_takeNumber : Room := { frames := 1, cells := 0, slots := 0, locals := 23 }
set_option maxHeartbeats 4000000 in
set_option maxRecDepth 100000 in
theorem k_X0_takeNumber {l : Launch} {D : va_G} {cI cJ cZ cS cA : ClassId} (h_t : Nat) (h_t_rows : Nat) (t_many : Int32) (t_rows : Nat → Int32) (v1 : Int32) (out : (Nat → Int32)) (hM : M_X0_takeNumber v1 t_many t_rows = some out) : on_Con l yX0_takeNumber wsX0_takeNumber rm_X0_takeNumber [.ref h_t, .int v1] D (on_T cI cJ cZ cS cA) [(h_t, .inr (0, [.int t_many, .ref h_t_rows])), (h_t_rows, .inl (cI, 7, .inl t_rows))] none [(h_t, .inr (0, [.int t_many, .ref h_t_rows])), (h_t_rows, .inl (cI, 7, .inl out))] := by
  unfold M_X0_takeNumber at hM
  refine on_enter (cc := cX0_takeNumber) (nL := 5) (rt := none) (own := RX0) (by decide +kernel) rfl rfl (Nat.le_of_ble_eq_true rfl) ?_
  intro p e s m below meth c A ls hx hb hml hr hlk hts hown hA hK hN H locs hP hD hS hl
  have hl : lv_has ls 5 [(0, .ref h_t), (1, .int v1)] := hl
  generalize hQ : MQ below (on_Q D none [(h_t, .inr (0, [.int t_many, .ref h_t_rows])), (h_t_rows, .inl (cI, 7, .inl out))] A) _ s 0 0 A = Q
  generalize hAr : List.toArray ([.ref h_t, .int v1] : List Value) = args at hts hQ ⊢
  have w1 := hts (.fieldLink RX0 9 "OddNets$Net" "many" "I") (by decide +kernel)
  have w2 : ∀ w ∈ wsX00, w ∈ wsX0_takeNumber := by decide +kernel
  have w3 := hts (.initialized RX5) (by decide +kernel)
  have w4 := hts (.static yX5_pairsOf) (by decide +kernel)
  have lp_23 : ∀ (v1 : Int32) (v3 : Int32), ∀ (n : Nat) (v2 : Int32) (v4 : Int32) (t_rows : Nat → Int32) (x : Int32 × (Nat → Int32)), on_loop (fun (s : Int32 × Int32 × (Nat → Int32)) => B_X0_takeNumber_23 v1 v3 t_many s.1 s.2.1 s.2.2) n (v2, v4, t_rows) = some x → (∀ (H : Heap) (locs : List Loc), va_P D vwCl [(h_t, .inr (0, [.int t_many, .ref h_t_rows])), (h_t_rows, .inl (cI, 7, .inl x.2))] H → va_D A [(h_t, .inr (0, [.int t_many, .ref h_t_rows])), (h_t_rows, .inl (cI, 7, .inl x.2))] → va_S A s.heap H locs → ∀ ls : Array Slot, lv_has ls 5 [(0, .ref h_t), (1, .int v1), (2, .int x.1), (3, .int v3)] → W p l e rm_X0_takeNumber s m args below meth c H locs 0 0 Q (F0 m 62 ls [])) → ∀ (H : Heap) (locs : List Loc), va_P D vwCl [(h_t, .inr (0, [.int t_many, .ref h_t_rows])), (h_t_rows, .inl (cI, 7, .inl t_rows))] H → va_D A [(h_t, .inr (0, [.int t_many, .ref h_t_rows])), (h_t_rows, .inl (cI, 7, .inl t_rows))] → va_S A s.heap H locs → ∀ ls : Array Slot, lv_has ls 5 [(0, .ref h_t), (1, .int v1), (2, .int v2), (3, .int v3), (4, .int v4)] → W p l e rm_X0_takeNumber s m args below meth c H locs 0 0 Q (F0 m 23 ls []) := by
    intro v1 v3
    intro n
    induction n with
    | zero =>
      intro v2 v4 t_rows x hL
      exact (on_loop0 hL).elim
    | succ n ih =>
      intro v2 v4 t_rows x hL K1 H locs hP hD hS ls hl
      obtain ⟨y, hM, hk⟩ := on_loopE hL
      have hM : B_X0_takeNumber_23 v1 v3 t_many v2 v4 t_rows = some y := hM
      unfold B_X0_takeNumber_23 at hM
      refine lv_iload hx hb dX0_takeNumber_23 (lv_at hl 4 rfl) ?_
      refine lv_aload_n hx hb dX0_takeNumber_25 rfl (lv_at hl 0 rfl) ?_
      refine va_get (D := D) (ci := 0) (v := .int t_many) (C := RX0) (T := TX0) (N := 2) hx hb hts w2 hown hK hP 0 rfl rfl 0 (by decide) w1 (fun _ h9 => h9) rfl dX0_takeNumber_26 ?_
      refine lv_icmp_ge (tgt := 62) hx hb dX0_takeNumber_29 (by decide) (fun c_4 => ?_) (fun c_4 => ?_)
      · have hM := on_pos c_4 hM
        have hk := on_nxR hM hk
        subst hk
        exact K1 _ _ hP hD hS ls (lv_sub hl [0, 1, 2, 3] rfl)
      · have hM := on_neg c_4 hM
        obtain ⟨v2_5, ev2_5⟩ : ∃ z : Int32, z = v2 + (-1) := ⟨_, rfl⟩
        have hM := on_letE ev2_5 hM
        refine lv_iinc (v := v2_5) (lv' := [(2, .int v2_5), (0, .ref h_t), (1, .int v1), (3, .int v3), (4, .int v4)]) hx hb dX0_takeNumber_32 hl (k := 2) rfl (by rw [ev2_5]; rfl) (by decide) rfl (fun ls hl => ?_)
        refine lv_aload_n hx hb dX0_takeNumber_35 rfl (lv_at hl 1 rfl) ?_
        refine lv_iload_n hx hb dX0_takeNumber_36 rfl (lv_at hl 3 rfl) ?_
        refine lv_iload hx hb dX0_takeNumber_37 (lv_at hl 4 rfl) ?_
        refine lv_iload_n hx hb dX0_takeNumber_39 rfl (lv_at hl 2 rfl) ?_
        refine lv_iload_n hx hb dX0_takeNumber_40 rfl (lv_at hl 0 rfl) ?_
        refine lv_ishr hx hb dX0_takeNumber_41 ?_
        refine lv_iconst (v := 1) hx hb dX0_takeNumber_42 (by decide) ?_
        refine lv_iand hx hb dX0_takeNumber_43 ?_
        refine lv_iconst (v := 1) hx hb dX0_takeNumber_44 (by decide) ?_
        refine lv_icmp_ne (tgt := 52) hx hb dX0_takeNumber_45 (by decide) (fun c_6 => ?_) (fun c_6 => ?_)
        · have hM := on_neg c_6 hM
          refine lv_iconst (v := 0) hx hb dX0_takeNumber_52 (by decide) ?_
          obtain ⟨q_7, hq_7, hM⟩ := on_bind hM
          refine on_callV (rest := []) (As := [.int v3, .int v4, .int (0 : Int32)]) (st1 := []) (C := RX0) (ci := 0) (q0 := 0) (wc := [(h_t, .inr (0, [.int t_many, .ref h_t_rows])), (h_t_rows, .inl (cI, 7, .inl t_rows))]) (wr := []) (wc' := [(h_t, .inr (0, [.int t_many, .ref h_t_rows])), (h_t_rows, .inl (cI, 7, .inl q_7))]) (wf := [(h_t, .inr (0, [.int t_many, .ref h_t_rows])), (h_t_rows, .inl (cI, 7, .inl q_7))]) (rt := none) ⟨hx, hb, hml, hown, hts⟩ (k_X0_connect h_t h_t_rows t_many t_rows v3 v4 (0 : Int32) q_7 hq_7) (cwV 3 hts gX0_takeNumber_X0_connect rfl rfl rfl ⟨rfl, hdX0_connect⟩ ⟨(Nat.le_of_ble_eq_true rfl), (Nat.le_of_ble_eq_true rfl)⟩) hK hN hP hD hS hA [0, 1] [] [0, 1] rfl rfl rfl rfl (by decide) rfl rfl rfl rfl rfl rfl hl.1 rfl (Nat.le_of_ble_eq_true rfl) rfl dX0_takeNumber_53 ⟨Nat.zero_le _, Nat.zero_le _⟩ (fun H locs hP hD hS => ?_)
          obtain ⟨v4_8, ev4_8⟩ : ∃ z : Int32, z = v4 + 1 := ⟨_, rfl⟩
          have hM := on_letE ev4_8 hM
          refine lv_iinc (v := v4_8) (lv' := [(4, .int v4_8), (2, .int v2_5), (0, .ref h_t), (1, .int v1), (3, .int v3)]) hx hb dX0_takeNumber_56 hl (k := 4) rfl (by rw [ev4_8]; rfl) (by decide) rfl (fun ls hl => ?_)
          refine lv_goto (tgt := 23) hx hb dX0_takeNumber_59 (by decide) ?_
          have hk := on_nxL hM hk
          exact ih v2_5 v4_8 q_7 _ hk K1 _ _ hP hD hS ls (lv_sub hl [2, 3, 1, 4, 0] rfl)
        · have hM := on_pos c_6 hM
          refine lv_iconst (v := 1) hx hb dX0_takeNumber_48 (by decide) ?_
          refine lv_goto (tgt := 53) hx hb dX0_takeNumber_49 (by decide) ?_
          obtain ⟨q_9, hq_9, hM⟩ := on_bind hM
          refine on_callV (rest := []) (As := [.int v3, .int v4, .int (1 : Int32)]) (st1 := []) (C := RX0) (ci := 0) (q0 := 0) (wc := [(h_t, .inr (0, [.int t_many, .ref h_t_rows])), (h_t_rows, .inl (cI, 7, .inl t_rows))]) (wr := []) (wc' := [(h_t, .inr (0, [.int t_many, .ref h_t_rows])), (h_t_rows, .inl (cI, 7, .inl q_9))]) (wf := [(h_t, .inr (0, [.int t_many, .ref h_t_rows])), (h_t_rows, .inl (cI, 7, .inl q_9))]) (rt := none) ⟨hx, hb, hml, hown, hts⟩ (k_X0_connect h_t h_t_rows t_many t_rows v3 v4 (1 : Int32) q_9 hq_9) (cwV 3 hts gX0_takeNumber_X0_connect rfl rfl rfl ⟨rfl, hdX0_connect⟩ ⟨(Nat.le_of_ble_eq_true rfl), (Nat.le_of_ble_eq_true rfl)⟩) hK hN hP hD hS hA [0, 1] [] [0, 1] rfl rfl rfl rfl (by decide) rfl rfl rfl rfl rfl rfl hl.1 rfl (Nat.le_of_ble_eq_true rfl) rfl dX0_takeNumber_53 ⟨Nat.zero_le _, Nat.zero_le _⟩ (fun H locs hP hD hS => ?_)
          obtain ⟨v4_10, ev4_10⟩ : ∃ z : Int32, z = v4 + 1 := ⟨_, rfl⟩
          have hM := on_letE ev4_10 hM
          refine lv_iinc (v := v4_10) (lv' := [(4, .int v4_10), (2, .int v2_5), (0, .ref h_t), (1, .int v1), (3, .int v3)]) hx hb dX0_takeNumber_56 hl (k := 4) rfl (by rw [ev4_10]; rfl) (by decide) rfl (fun ls hl => ?_)
          refine lv_goto (tgt := 23) hx hb dX0_takeNumber_59 (by decide) ?_
          have hk := on_nxL hM hk
          exact ih v2_5 v4_10 q_9 _ hk K1 _ _ hP hD hS ls (lv_sub hl [2, 3, 1, 4, 0] rfl)
  have lp_10 : ∀ (v1 : Int32), ∀ (n : Nat) (v2 : Int32) (v3 : Int32) (t_rows : Nat → Int32) (x : (Nat → Int32)), on_loop (fun (s : Int32 × Int32 × (Nat → Int32)) => B_X0_takeNumber_10 v1 t_many s.1 s.2.1 s.2.2) n (v2, v3, t_rows) = some x → (∀ (H : Heap) (locs : List Loc), va_P D vwCl [(h_t, .inr (0, [.int t_many, .ref h_t_rows])), (h_t_rows, .inl (cI, 7, .inl x))] H → va_D A [(h_t, .inr (0, [.int t_many, .ref h_t_rows])), (h_t_rows, .inl (cI, 7, .inl x))] → va_S A s.heap H locs → ∀ ls : Array Slot, lv_has ls 5 [] → W p l e rm_X0_takeNumber s m args below meth c H locs 0 0 Q (F0 m 68 ls [])) → ∀ (H : Heap) (locs : List Loc), va_P D vwCl [(h_t, .inr (0, [.int t_many, .ref h_t_rows])), (h_t_rows, .inl (cI, 7, .inl t_rows))] H → va_D A [(h_t, .inr (0, [.int t_many, .ref h_t_rows])), (h_t_rows, .inl (cI, 7, .inl t_rows))] → va_S A s.heap H locs → ∀ ls : Array Slot, lv_has ls 5 [(0, .ref h_t), (1, .int v1), (2, .int v2), (3, .int v3)] → W p l e rm_X0_takeNumber s m args below meth c H locs 0 0 Q (F0 m 10 ls []) := by
    intro v1
    intro n
    induction n with
    | zero =>
      intro v2 v3 t_rows x hL
      exact (on_loop0 hL).elim
    | succ n ih =>
      intro v2 v3 t_rows x hL K1 H locs hP hD hS ls hl
      obtain ⟨y, hM, hk⟩ := on_loopE hL
      have hM : B_X0_takeNumber_10 v1 t_many v2 v3 t_rows = some y := hM
      unfold B_X0_takeNumber_10 at hM
      refine lv_iload_n hx hb dX0_takeNumber_10 rfl (lv_at hl 3 rfl) ?_
      refine lv_aload_n hx hb dX0_takeNumber_11 rfl (lv_at hl 0 rfl) ?_
      refine va_get (D := D) (ci := 0) (v := .int t_many) (C := RX0) (T := TX0) (N := 2) hx hb hts w2 hown hK hP 0 rfl rfl 0 (by decide) w1 (fun _ h9 => h9) rfl dX0_takeNumber_12 ?_
      refine lv_icmp_ge (tgt := 68) hx hb dX0_takeNumber_15 (by decide) (fun c_2 => ?_) (fun c_2 => ?_)
      · have hM := on_pos c_2 hM
        have hk := on_nxR hM hk
        subst hk
        exact K1 _ _ hP hD hS ls (lv_sub hl [] rfl)
      · have hM := on_neg c_2 hM
        refine lv_iload_n hx hb dX0_takeNumber_18 rfl (lv_at hl 3 rfl) ?_
        refine lv_iconst (v := 1) hx hb dX0_takeNumber_19 (by decide) ?_
        refine lv_iadd hx hb dX0_takeNumber_20 ?_
        refine lv_topi (fun v4_3 ev4_3 => ?_)
        have hM := on_letE ev4_3 hM
        refine lv_istore (lv' := [(4, .int v4_3), (0, .ref h_t), (1, .int v1), (2, .int v2), (3, .int v3)]) hx hb dX0_takeNumber_21 hl (by decide) rfl (fun ls hl => ?_)
        obtain ⟨q_11, hq_11, hM⟩ := on_bind hM
        refine lp_23 v1 v3 on_F v2 v4_3 t_rows q_11 hq_11 (fun H locs hP hD hS ls hl => ?_) H locs hP hD hS ls (lv_sub hl [1, 2, 3, 4, 0] rfl)
        obtain ⟨v3_12, ev3_12⟩ : ∃ z : Int32, z = v3 + 1 := ⟨_, rfl⟩
        have hM := on_letE ev3_12 hM
        refine lv_iinc (v := v3_12) (lv' := [(3, .int v3_12), (0, .ref h_t), (1, .int v1), (2, .int q_11.1)]) hx hb dX0_takeNumber_62 hl (k := 3) rfl (by rw [ev3_12]; rfl) (by decide) rfl (fun ls hl => ?_)
        refine lv_goto (tgt := 10) hx hb dX0_takeNumber_65 (by decide) ?_
        have hk := on_nxL hM hk
        exact ih q_11.1 v3_12 q_11.2 _ hk K1 _ _ hP hD hS ls (lv_sub hl [1, 2, 3, 0] rfl)
  refine lv_aload_n hx hb dX0_takeNumber_0 rfl (lv_at hl 0 rfl) ?_
  refine va_get (D := D) (ci := 0) (v := .int t_many) (C := RX0) (T := TX0) (N := 2) hx hb hts w2 hown hK hP 0 rfl rfl 0 (by decide) w1 (fun _ h9 => h9) rfl dX0_takeNumber_1 ?_
  obtain ⟨q_1, hq_1, hM⟩ := on_bind hM
  refine on_callSN0 (rest := []) (As := [.int t_many]) (st1 := [.int q_1]) ⟨hx, hb, hml, hown, hts⟩ (k_X5_pairsOf t_many q_1 hq_1) ⟨va_cnB 1 hts gX0_takeNumber_X5_pairsOf_n25 rfl rfl rfl (hN _ (List.mem_of_getElem? (i := 17) rfl)) w3 hdX5_pairsOf ⟨(Nat.le_of_ble_eq_true rfl), (Nat.le_of_ble_eq_true rfl)⟩, w4, trivial⟩ hK hN hP hD hS hA rfl hl.1 rfl (Nat.le_of_ble_eq_true rfl) rfl dX0_takeNumber_4 ⟨Nat.zero_le _, Nat.zero_le _⟩ (fun H locs hP hS => ?_)
  refine lv_istore_n (lv' := [(2, .int q_1), (0, .ref h_t), (1, .int v1)]) hx hb dX0_takeNumber_7 rfl hl (by decide) rfl (fun ls hl => ?_)
  refine lv_iconst (v := 0) hx hb dX0_takeNumber_8 (by decide) ?_
  refine lv_istore_n (lv' := [(3, .int (0 : Int32)), (2, .int q_1), (0, .ref h_t), (1, .int v1)]) hx hb dX0_takeNumber_9 rfl hl (by decide) rfl (fun ls hl => ?_)
  obtain ⟨q_13, hq_13, hM⟩ := on_bind hM
  refine lp_10 v1 on_F q_1 (0 : Int32) t_rows q_13 hq_13 (fun H locs hP hD hS ls hl => ?_) H locs hP hD hS ls (lv_sub hl [2, 3, 1, 0] rfl)
  have hM := Option.some.inj hM
  subst hM
  rw [← hQ]
  exact on_vret hx hb hr hlk hP hD hS dX0_takeNumber_68
abbrev rm_X5_load : Room := { frames := 2, cells := 0, slots := 0, locals := 47 }
set_option maxHeartbeats 4000000 in
set_option maxRecDepth 100000 in
theorem k_X5_load {l : Launch} {D : va_G} {cI cJ cZ cS cA : ClassId} (h_t : Nat) (h_t_now : Nat) (h_t_images : Nat) (h_t_pad : Nat) (h_t_net : Nat) (h_t_second : Nat) (h_t_renumbering : Nat) (h_t_table : Nat) (h_t_marks : Nat) (h_t_now_numbers : Nat) (h_p0 : Nat) (h_p0_rows : Nat) (t_now_many : Int32) (t_now_numbers : Nat → Int32) (p0_many : Int32) (p0_rows : Nat → Int32) (v2 : Int32) (out : Int32 × (Nat → Int32)) (hM : M_X5_load v2 t_now_many t_now_numbers p0_rows = some out) : on_Con l yX5_load wsX5_load rm_X5_load [.ref h_t, .ref h_p0, .int v2] D (on_T cI cJ cZ cS cA) [(h_t, .inr (5, [.ref h_t_now, .ref h_t_images, .ref h_t_pad, .ref h_t_net, .ref h_t_second, .ref h_t_renumbering, .ref h_t_table, .ref h_t_marks])), (h_t_now, .inr (3, [.int t_now_many, .ref h_t_now_numbers])), (h_t_now_numbers, .inl (cI, 3, .inl t_now_numbers)), (h_p0, .inr (0, [.int p0_many, .ref h_p0_rows])), (h_p0_rows, .inl (cI, 7, .inl p0_rows))] none [(h_t, .inr (5, [.ref h_t_now, .ref h_t_images, .ref h_t_pad, .ref h_t_net, .ref h_t_second, .ref h_t_renumbering, .ref h_t_table, .ref h_t_marks])), (h_t_now, .inr (3, [.int t_now_many, .ref h_t_now_numbers])), (h_t_now_numbers, .inl (cI, 3, .inl t_now_numbers)), (h_p0, .inr (0, [.int out.1, .ref h_p0_rows])), (h_p0_rows, .inl (cI, 7, .inl out.2))] := by
  unfold M_X5_load at hM
  refine on_enter (cc := cX5_load) (nL := 3) (rt := none) (own := RX5) (by decide +kernel) rfl rfl (Nat.le_of_ble_eq_true rfl) ?_
  intro p e s m below meth c A ls hx hb hml hr hlk hts hown hA hK hN H locs hP hD hS hl
  have hl : lv_has ls 3 [(0, .ref h_t), (1, .ref h_p0), (2, .int v2)] := hl
  generalize hQ : MQ below (on_Q D none [(h_t, .inr (5, [.ref h_t_now, .ref h_t_images, .ref h_t_pad, .ref h_t_net, .ref h_t_second, .ref h_t_renumbering, .ref h_t_table, .ref h_t_marks])), (h_t_now, .inr (3, [.int t_now_many, .ref h_t_now_numbers])), (h_t_now_numbers, .inl (cI, 3, .inl t_now_numbers)), (h_p0, .inr (0, [.int out.1, .ref h_p0_rows])), (h_p0_rows, .inl (cI, 7, .inl out.2))] A) _ s 0 0 A = Q
  generalize hAr : List.toArray ([.ref h_t, .ref h_p0, .int v2] : List Value) = args at hts hQ ⊢
  have w1 := hts (.fieldLink RX5 10 "OddNets" "now" "LOddNets$Shelf;") (by decide +kernel)
  have w2 : ∀ w ∈ wsX50, w ∈ wsX5_load := by decide +kernel
  have w3 : ∀ w ∈ wsX30, w ∈ wsX5_load := by decide +kernel
  have w4 := hts (.initialized RX0) (by decide +kernel)
  have w5 := hts (.instanceMethod yX0_clear) (by decide +kernel)
  have w6 := hts (.selects RX0 yX0_clear yX0_clear) (by decide +kernel)
  have w7 := hts (.instanceMethod yX0_takeNumber) (by decide +kernel)
  have w8 := hts (.selects RX0 yX0_takeNumber yX0_takeNumber) (by decide +kernel)
  refine lv_aload_n hx hb dX5_load_0 rfl (lv_at hl 1 rfl) ?_
  refine lv_aload_n hx hb dX5_load_1 rfl (lv_at hl 0 rfl) ?_
  refine va_get (D := D) (ci := 5) (v := .ref h_t_now) (C := RX5) (T := TX5) (N := 8) hx hb hts w2 hown hK hP 0 rfl rfl 0 (by decide) w1 (fun _ h9 => h9) rfl dX5_load_2 ?_
  refine va_getN (D := D) (ci := 3) (v := .int t_now_many) (C := RX3) (T := TX3) (N := 2) hx hb hts w3 hown hK hP 1 rfl rfl 0 (by decide) (va_Nw.use rfl (hN _ (List.mem_of_getElem? (i := 0) rfl))) (fun _ h9 => h9) rfl dX5_load_5 ?_
  obtain ⟨q_1, hq_1, hM⟩ := on_bind hM
  refine on_callVN (rest := []) (As := [.int t_now_many]) (st1 := []) (C := RX0) (ci := 0) (q0 := 3) (wc := [(h_p0, .inr (0, [.int p0_many, .ref h_p0_rows])), (h_p0_rows, .inl (cI, 7, .inl p0_rows))]) (wr := [(h_t, .inr (5, [.ref h_t_now, .ref h_t_images, .ref h_t_pad, .ref h_t_net, .ref h_t_second, .ref h_t_renumbering, .ref h_t_table, .ref h_t_marks])), (h_t_now, .inr (3, [.int t_now_many, .ref h_t_now_numbers])), (h_t_now_numbers, .inl (cI, 3, .inl t_now_numbers))]) (wc' := [(h_p0, .inr (0, [.int q_1.1, .ref h_p0_rows])), (h_p0_rows, .inl (cI, 7, .inl q_1.2))]) (wf := [(h_t, .inr (5, [.ref h_t_now, .ref h_t_images, .ref h_t_pad, .ref h_t_net, .ref h_t_second, .ref h_t_renumbering, .ref h_t_table, .ref h_t_marks])), (h_t_now, .inr (3, [.int t_now_many, .ref h_t_now_numbers])), (h_t_now_numbers, .inl (cI, 3, .inl t_now_numbers)), (h_p0, .inr (0, [.int q_1.1, .ref h_p0_rows])), (h_p0_rows, .inl (cI, 7, .inl q_1.2))]) (rt := none) ⟨hx, hb, hml, hown, hts⟩ (k_X0_clear h_p0 h_p0_rows p0_many p0_rows t_now_many q_1 hq_1) ⟨va_cnB 1 hts gX5_load_X0_clear_n108 rfl rfl rfl (hN _ (List.mem_of_getElem? (i := 15) rfl)) w4 hdX0_clear ⟨(Nat.le_of_ble_eq_true rfl), (Nat.le_of_ble_eq_true rfl)⟩, w5, w6⟩ hK hN hP hD hS hA [3, 4] [0, 1, 2] [0, 1, 2, 3, 4] rfl rfl rfl rfl (by decide) rfl rfl rfl rfl rfl rfl hl.1 rfl (Nat.le_of_ble_eq_true rfl) rfl dX5_load_8 ⟨Nat.zero_le _, Nat.zero_le _⟩ (fun H locs hP hD hS => ?_)
  refine lv_aload_n hx hb dX5_load_11 rfl (lv_at hl 1 rfl) ?_
  refine lv_aload_n hx hb dX5_load_12 rfl (lv_at hl 0 rfl) ?_
  refine va_get (D := D) (ci := 5) (v := .ref h_t_now) (C := RX5) (T := TX5) (N := 8) hx hb hts w2 hown hK hP 0 rfl rfl 0 (by decide) w1 (fun _ h9 => h9) rfl dX5_load_13 ?_
  refine va_getN (D := D) (ci := 3) (v := .ref h_t_now_numbers) (C := RX3) (T := TX3) (N := 2) hx hb hts w3 hown hK hP 1 rfl rfl 1 (by decide) (va_Nw.use rfl (hN _ (List.mem_of_getElem? (i := 1) rfl))) (fun _ h9 => h9) rfl dX5_load_16 ?_
  refine lv_iload_n hx hb dX5_load_19 rfl (lv_at hl 2 rfl) ?_
  obtain ⟨g_2, hM⟩ := on_gdE hM
  refine va_iald hx hb hK hP 2 0 rfl rfl (on_ixE g_2) dX5_load_20 ?_
  obtain ⟨q_3, hq_3, hM⟩ := on_bind hM
  refine on_callVN (rest := []) (As := [.int (t_now_numbers (Int32.toNatClampNeg v2))]) (st1 := []) (C := RX0) (ci := 0) (q0 := 3) (wc := [(h_p0, .inr (0, [.int q_1.1, .ref h_p0_rows])), (h_p0_rows, .inl (cI, 7, .inl q_1.2))]) (wr := [(h_t, .inr (5, [.ref h_t_now, .ref h_t_images, .ref h_t_pad, .ref h_t_net, .ref h_t_second, .ref h_t_renumbering, .ref h_t_table, .ref h_t_marks])), (h_t_now, .inr (3, [.int t_now_many, .ref h_t_now_numbers])), (h_t_now_numbers, .inl (cI, 3, .inl t_now_numbers))]) (wc' := [(h_p0, .inr (0, [.int q_1.1, .ref h_p0_rows])), (h_p0_rows, .inl (cI, 7, .inl q_3))]) (wf := [(h_t, .inr (5, [.ref h_t_now, .ref h_t_images, .ref h_t_pad, .ref h_t_net, .ref h_t_second, .ref h_t_renumbering, .ref h_t_table, .ref h_t_marks])), (h_t_now, .inr (3, [.int t_now_many, .ref h_t_now_numbers])), (h_t_now_numbers, .inl (cI, 3, .inl t_now_numbers)), (h_p0, .inr (0, [.int q_1.1, .ref h_p0_rows])), (h_p0_rows, .inl (cI, 7, .inl q_3))]) (rt := none) ⟨hx, hb, hml, hown, hts⟩ (k_X0_takeNumber h_p0 h_p0_rows q_1.1 q_1.2 (t_now_numbers (Int32.toNatClampNeg v2)) q_3 hq_3) ⟨va_cnB 1 hts gX5_load_X0_takeNumber_n220 rfl rfl rfl (hN _ (List.mem_of_getElem? (i := 16) rfl)) w4 hdX0_takeNumber ⟨(Nat.le_of_ble_eq_true rfl), (Nat.le_of_ble_eq_true rfl)⟩, w7, w8⟩ hK hN hP hD hS hA [3, 4] [0, 1, 2] [0, 1, 2, 3, 4] rfl rfl rfl rfl (by decide) rfl rfl rfl rfl rfl rfl hl.1 rfl (Nat.le_of_ble_eq_true rfl) rfl dX5_load_21 ⟨Nat.zero_le _, Nat.zero_le _⟩ (fun H locs hP hD hS => ?_)
  have hM := Option.some.inj hM
  subst hM
  rw [← hQ]
  exact on_vret hx hb hr hlk hP hD hS dX5_load_24
abbrev rm_X0_joined : Room := { frames := 0, cells := 0, slots := 0, locals := 0 }
set_option maxHeartbeats 4000000 in
set_option maxRecDepth 100000 in
theorem k_X0_joined {l : Launch} {D : va_G} {cI cJ cZ cS cA : ClassId} (h_t : Nat) (h_t_rows : Nat) (t_many : Int32) (t_rows : Nat → Int32) (v1 : Int32) (v2 : Int32) (out : Int32) (hM : M_X0_joined v1 v2 t_rows = some out) : on_Con l yX0_joined wsX0_joined rm_X0_joined [.ref h_t, .int v1, .int v2] D (on_T cI cJ cZ cS cA) [(h_t, .inr (0, [.int t_many, .ref h_t_rows])), (h_t_rows, .inl (cI, 7, .inl t_rows))] (some (.int out)) [(h_t, .inr (0, [.int t_many, .ref h_t_rows])), (h_t_rows, .inl (cI, 7, .inl t_rows))] := by
  unfold M_X0_joined at hM
  refine on_enter (cc := cX0_joined) (nL := 3) (rt := (some .int)) (own := RX0) (by decide +kernel) rfl rfl (Nat.le_of_ble_eq_true rfl) ?_
  intro p e s m below meth c A ls hx hb hml hr hlk hts hown hA hK hN H locs hP hD hS hl
  have hl : lv_has ls 3 [(0, .ref h_t), (1, .int v1), (2, .int v2)] := hl
  generalize hQ : MQ below (on_Q D (some (.int out)) [(h_t, .inr (0, [.int t_many, .ref h_t_rows])), (h_t_rows, .inl (cI, 7, .inl t_rows))] A) _ s 0 0 A = Q
  generalize hAr : List.toArray ([.ref h_t, .int v1, .int v2] : List Value) = args at hts hQ ⊢
  have w1 := hts (.fieldLink RX0 15 "OddNets$Net" "rows" "[I") (by decide +kernel)
  have w2 : ∀ w ∈ wsX00, w ∈ wsX0_joined := by decide +kernel
  refine lv_aload_n hx hb dX0_joined_0 rfl (lv_at hl 0 rfl) ?_
  refine va_get (D := D) (ci := 0) (v := .ref h_t_rows) (C := RX0) (T := TX0) (N := 2) hx hb hts w2 hown hK hP 0 rfl rfl 1 (by decide) w1 (fun _ h9 => h9) rfl dX0_joined_1 ?_
  refine lv_iload_n hx hb dX0_joined_4 rfl (lv_at hl 1 rfl) ?_
  obtain ⟨g_1, hM⟩ := on_gdE hM
  refine va_iald hx hb hK hP 1 0 rfl rfl (on_ixE g_1) dX0_joined_5 ?_
  refine lv_iload_n hx hb dX0_joined_6 rfl (lv_at hl 2 rfl) ?_
  refine lv_ishr hx hb dX0_joined_7 ?_
  refine lv_iconst (v := 1) hx hb dX0_joined_8 (by decide) ?_
  refine lv_iand hx hb dX0_joined_9 ?_
  have hM := Option.some.inj hM
  subst hM
  rw [← hQ]
  exact on_iret hx hb hr hlk hP hD hS dX0_joined_10
abbrev rm_X0_number : Room := { frames := 1, cells := 0, slots := 0, locals := 22 }
set_option maxHeartbeats 4000000 in
set_option maxRecDepth 100000 in
theorem k_X0_number {l : Launch} {D : va_G} {cI cJ cZ cS cA : ClassId} (h_t : Nat) (h_t_rows : Nat) (t_many : Int32) (t_rows : Nat → Int32)  (out : Int32) (hM : M_X0_number t_many t_rows = some out) : on_Con l yX0_number wsX0_number rm_X0_number [.ref h_t] D (on_T cI cJ cZ cS cA) [(h_t, .inr (0, [.int t_many, .ref h_t_rows])), (h_t_rows, .inl (cI, 7, .inl t_rows))] (some (.int out)) [(h_t, .inr (0, [.int t_many, .ref h_t_rows])), (h_t_rows, .inl (cI, 7, .inl t_rows))] := by
  unfold M_X0_number at hM
  refine on_enter (cc := cX0_number) (nL := 4) (rt := (some .int)) (own := RX0) (by decide +kernel) rfl rfl (Nat.le_of_ble_eq_true rfl) ?_
  intro p e s m below meth c A ls hx hb hml hr hlk hts hown hA hK hN H locs hP hD hS hl
  have hl : lv_has ls 4 [(0, .ref h_t)] := hl
  generalize hQ : MQ below (on_Q D (some (.int out)) [(h_t, .inr (0, [.int t_many, .ref h_t_rows])), (h_t_rows, .inl (cI, 7, .inl t_rows))] A) _ s 0 0 A = Q
  generalize hAr : List.toArray ([.ref h_t] : List Value) = args at hts hQ ⊢
  have w1 := hts (.fieldLink RX0 9 "OddNets$Net" "many" "I") (by decide +kernel)
  have w2 : ∀ w ∈ wsX00, w ∈ wsX0_number := by decide +kernel
  have lp_16 : ∀ (v2 : Int32), ∀ (n : Nat) (v1 : Int32) (v3 : Int32) (x : Int32), on_loop (fun (s : Int32 × Int32) => B_X0_number_16 v2 t_many t_rows s.1 s.2) n (v1, v3) = some x → (∀ (H : Heap) (locs : List Loc), va_P D vwCl [(h_t, .inr (0, [.int t_many, .ref h_t_rows])), (h_t_rows, .inl (cI, 7, .inl t_rows))] H → va_D A [(h_t, .inr (0, [.int t_many, .ref h_t_rows])), (h_t_rows, .inl (cI, 7, .inl t_rows))] → va_S A s.heap H locs → ∀ ls : Array Slot, lv_has ls 4 [(0, .ref h_t), (1, .int x), (2, .int v2)] → W p l e rm_X0_number s m args below meth c H locs 0 0 Q (F0 m 41 ls [])) → ∀ (H : Heap) (locs : List Loc), va_P D vwCl [(h_t, .inr (0, [.int t_many, .ref h_t_rows])), (h_t_rows, .inl (cI, 7, .inl t_rows))] H → va_D A [(h_t, .inr (0, [.int t_many, .ref h_t_rows])), (h_t_rows, .inl (cI, 7, .inl t_rows))] → va_S A s.heap H locs → ∀ ls : Array Slot, lv_has ls 4 [(0, .ref h_t), (1, .int v1), (2, .int v2), (3, .int v3)] → W p l e rm_X0_number s m args below meth c H locs 0 0 Q (F0 m 16 ls []) := by
    intro v2
    intro n
    induction n with
    | zero =>
      intro v1 v3 x hL
      exact (on_loop0 hL).elim
    | succ n ih =>
      intro v1 v3 x hL K1 H locs hP hD hS ls hl
      obtain ⟨y, hM, hk⟩ := on_loopE hL
      have hM : B_X0_number_16 v2 t_many t_rows v1 v3 = some y := hM
      unfold B_X0_number_16 at hM
      refine lv_iload_n hx hb dX0_number_16 rfl (lv_at hl 3 rfl) ?_
      refine lv_aload_n hx hb dX0_number_17 rfl (lv_at hl 0 rfl) ?_
      refine va_get (D := D) (ci := 0) (v := .int t_many) (C := RX0) (T := TX0) (N := 2) hx hb hts w2 hown hK hP 0 rfl rfl 0 (by decide) w1 (fun _ h9 => h9) rfl dX0_number_18 ?_
      refine lv_icmp_ge (tgt := 41) hx hb dX0_number_21 (by decide) (fun c_3 => ?_) (fun c_3 => ?_)
      · have hM := on_pos c_3 hM
        have hk := on_nxR hM hk
        subst hk
        exact K1 _ _ hP hD hS ls (lv_sub hl [0, 1, 2] rfl)
      · have hM := on_neg c_3 hM
        refine lv_iload_n hx hb dX0_number_24 rfl (lv_at hl 1 rfl) ?_
        refine lv_iconst (v := 1) hx hb dX0_number_25 (by decide) ?_
        refine lv_ishl hx hb dX0_number_26 ?_
        refine lv_aload_n hx hb dX0_number_27 rfl (lv_at hl 0 rfl) ?_
        refine lv_iload_n hx hb dX0_number_28 rfl (lv_at hl 2 rfl) ?_
        refine lv_iload_n hx hb dX0_number_29 rfl (lv_at hl 3 rfl) ?_
        obtain ⟨q_4, hq_4, hM⟩ := on_bind hM
        refine on_callV (rest := [.int (v1 <<< ((1 : Int32) &&& 31))]) (As := [.int v2, .int v3]) (st1 := [.int q_4, .int (v1 <<< ((1 : Int32) &&& 31))]) (C := RX0) (ci := 0) (q0 := 0) (wc := [(h_t, .inr (0, [.int t_many, .ref h_t_rows])), (h_t_rows, .inl (cI, 7, .inl t_rows))]) (wr := []) (wc' := [(h_t, .inr (0, [.int t_many, .ref h_t_rows])), (h_t_rows, .inl (cI, 7, .inl t_rows))]) (wf := [(h_t, .inr (0, [.int t_many, .ref h_t_rows])), (h_t_rows, .inl (cI, 7, .inl t_rows))]) (rt := (some (.int q_4))) ⟨hx, hb, hml, hown, hts⟩ (k_X0_joined h_t h_t_rows t_many t_rows v2 v3 q_4 hq_4) (cwV 2 hts gX0_number_X0_joined rfl rfl rfl ⟨rfl, hdX0_joined⟩ ⟨(Nat.le_of_ble_eq_true rfl), (Nat.le_of_ble_eq_true rfl)⟩) hK hN hP hD hS hA [0, 1] [] [0, 1] rfl rfl rfl rfl (by decide) rfl rfl rfl rfl rfl rfl hl.1 rfl (Nat.le_of_ble_eq_true rfl) rfl dX0_number_30 ⟨Nat.zero_le _, Nat.zero_le _⟩ (fun H locs hP hD hS => ?_)
        refine lv_ior hx hb dX0_number_33 ?_
        refine lv_topi (fun v1_5 ev1_5 => ?_)
        have hM := on_letE ev1_5 hM
        refine lv_istore_n (lv' := [(1, .int v1_5), (0, .ref h_t), (2, .int v2), (3, .int v3)]) hx hb dX0_number_34 rfl hl (by decide) rfl (fun ls hl => ?_)
        obtain ⟨v3_6, ev3_6⟩ : ∃ z : Int32, z = v3 + 1 := ⟨_, rfl⟩
        have hM := on_letE ev3_6 hM
        refine lv_iinc (v := v3_6) (lv' := [(3, .int v3_6), (1, .int v1_5), (0, .ref h_t), (2, .int v2)]) hx hb dX0_number_35 hl (k := 3) rfl (by rw [ev3_6]; rfl) (by decide) rfl (fun ls hl => ?_)
        refine lv_goto (tgt := 16) hx hb dX0_number_38 (by decide) ?_
        have hk := on_nxL hM hk
        exact ih v1_5 v3_6 _ hk K1 _ _ hP hD hS ls (lv_sub hl [2, 1, 3, 0] rfl)
  have lp_4 : ∀ (n : Nat) (v1 : Int32) (v2 : Int32) (x : Int32), on_loop (fun (s : Int32 × Int32) => B_X0_number_4 t_many t_rows s.1 s.2) n (v1, v2) = some x → (∀ (H : Heap) (locs : List Loc), va_P D vwCl [(h_t, .inr (0, [.int t_many, .ref h_t_rows])), (h_t_rows, .inl (cI, 7, .inl t_rows))] H → va_D A [(h_t, .inr (0, [.int t_many, .ref h_t_rows])), (h_t_rows, .inl (cI, 7, .inl t_rows))] → va_S A s.heap H locs → ∀ ls : Array Slot, lv_has ls 4 [(1, .int x)] → W p l e rm_X0_number s m args below meth c H locs 0 0 Q (F0 m 47 ls [])) → ∀ (H : Heap) (locs : List Loc), va_P D vwCl [(h_t, .inr (0, [.int t_many, .ref h_t_rows])), (h_t_rows, .inl (cI, 7, .inl t_rows))] H → va_D A [(h_t, .inr (0, [.int t_many, .ref h_t_rows])), (h_t_rows, .inl (cI, 7, .inl t_rows))] → va_S A s.heap H locs → ∀ ls : Array Slot, lv_has ls 4 [(0, .ref h_t), (1, .int v1), (2, .int v2)] → W p l e rm_X0_number s m args below meth c H locs 0 0 Q (F0 m 4 ls []) := by
    intro n
    induction n with
    | zero =>
      intro v1 v2 x hL
      exact (on_loop0 hL).elim
    | succ n ih =>
      intro v1 v2 x hL K1 H locs hP hD hS ls hl
      obtain ⟨y, hM, hk⟩ := on_loopE hL
      have hM : B_X0_number_4 t_many t_rows v1 v2 = some y := hM
      unfold B_X0_number_4 at hM
      refine lv_iload_n hx hb dX0_number_4 rfl (lv_at hl 2 rfl) ?_
      refine lv_aload_n hx hb dX0_number_5 rfl (lv_at hl 0 rfl) ?_
      refine va_get (D := D) (ci := 0) (v := .int t_many) (C := RX0) (T := TX0) (N := 2) hx hb hts w2 hown hK hP 0 rfl rfl 0 (by decide) w1 (fun _ h9 => h9) rfl dX0_number_6 ?_
      refine lv_icmp_ge (tgt := 47) hx hb dX0_number_9 (by decide) (fun c_1 => ?_) (fun c_1 => ?_)
      · have hM := on_pos c_1 hM
        have hk := on_nxR hM hk
        subst hk
        exact K1 _ _ hP hD hS ls (lv_sub hl [1] rfl)
      · have hM := on_neg c_1 hM
        refine lv_iload_n hx hb dX0_number_12 rfl (lv_at hl 2 rfl) ?_
        refine lv_iconst (v := 1) hx hb dX0_number_13 (by decide) ?_
        refine lv_iadd hx hb dX0_number_14 ?_
        refine lv_topi (fun v3_2 ev3_2 => ?_)
        have hM := on_letE ev3_2 hM
        refine lv_istore_n (lv' := [(3, .int v3_2), (0, .ref h_t), (1, .int v1), (2, .int v2)]) hx hb dX0_number_15 rfl hl (by decide) rfl (fun ls hl => ?_)
        obtain ⟨q_7, hq_7, hM⟩ := on_bind hM
        refine lp_16 v2 on_F v1 v3_2 q_7 hq_7 (fun H locs hP hD hS ls hl => ?_) H locs hP hD hS ls (lv_sub hl [1, 2, 3, 0] rfl)
        obtain ⟨v2_8, ev2_8⟩ : ∃ z : Int32, z = v2 + 1 := ⟨_, rfl⟩
        have hM := on_letE ev2_8 hM
        refine lv_iinc (v := v2_8) (lv' := [(2, .int v2_8), (0, .ref h_t), (1, .int q_7)]) hx hb dX0_number_41 hl (k := 2) rfl (by rw [ev2_8]; rfl) (by decide) rfl (fun ls hl => ?_)
        refine lv_goto (tgt := 4) hx hb dX0_number_44 (by decide) ?_
        have hk := on_nxL hM hk
        exact ih q_7 v2_8 _ hk K1 _ _ hP hD hS ls (lv_sub hl [1, 2, 0] rfl)
  refine lv_iconst (v := 0) hx hb dX0_number_0 (by decide) ?_
  refine lv_istore_n (lv' := [(1, .int (0 : Int32)), (0, .ref h_t)]) hx hb dX0_number_1 rfl hl (by decide) rfl (fun ls hl => ?_)
  refine lv_iconst (v := 0) hx hb dX0_number_2 (by decide) ?_
  refine lv_istore_n (lv' := [(2, .int (0 : Int32)), (1, .int (0 : Int32)), (0, .ref h_t)]) hx hb dX0_number_3 rfl hl (by decide) rfl (fun ls hl => ?_)
  obtain ⟨q_9, hq_9, hM⟩ := on_bind hM
  refine lp_4  on_F (0 : Int32) (0 : Int32) q_9 hq_9 (fun H locs hP hD hS ls hl => ?_) H locs hP hD hS ls (lv_sub hl [2, 1, 0] rfl)
  refine lv_iload_n hx hb dX0_number_47 rfl (lv_at hl 0 rfl) ?_
  have hM := Option.some.inj hM
  subst hM
  rw [← hQ]
  exact on_iret hx hb hr hlk hP hD hS dX0_number_48
abbrev rm_X0_degree : Room := { frames := 1, cells := 0, slots := 0, locals := 20 }
set_option maxHeartbeats 4000000 in
set_option maxRecDepth 100000 in
theorem k_X0_degree {l : Launch} {D : va_G} {cI cJ cZ cS cA : ClassId} (h_t : Nat) (h_t_rows : Nat) (t_many : Int32) (t_rows : Nat → Int32) (v1 : Int32) (out : Int32) (hM : M_X0_degree v1 t_rows = some out) : on_Con l yX0_degree wsX0_degree rm_X0_degree [.ref h_t, .int v1] D (on_T cI cJ cZ cS cA) [(h_t, .inr (0, [.int t_many, .ref h_t_rows])), (h_t_rows, .inl (cI, 7, .inl t_rows))] (some (.int out)) [(h_t, .inr (0, [.int t_many, .ref h_t_rows])), (h_t_rows, .inl (cI, 7, .inl t_rows))] := by
  unfold M_X0_degree at hM
  refine on_enter (cc := cX0_degree) (nL := 2) (rt := (some .int)) (own := RX0) (by decide +kernel) rfl rfl (Nat.le_of_ble_eq_true rfl) ?_
  intro p e s m below meth c A ls hx hb hml hr hlk hts hown hA hK hN H locs hP hD hS hl
  have hl : lv_has ls 2 [(0, .ref h_t), (1, .int v1)] := hl
  generalize hQ : MQ below (on_Q D (some (.int out)) [(h_t, .inr (0, [.int t_many, .ref h_t_rows])), (h_t_rows, .inl (cI, 7, .inl t_rows))] A) _ s 0 0 A = Q
  generalize hAr : List.toArray ([.ref h_t, .int v1] : List Value) = args at hts hQ ⊢
  have w1 := hts (.fieldLink RX0 15 "OddNets$Net" "rows" "[I") (by decide +kernel)
  have w2 : ∀ w ∈ wsX00, w ∈ wsX0_degree := by decide +kernel
  refine lv_aload_n hx hb dX0_degree_0 rfl (lv_at hl 0 rfl) ?_
  refine va_get (D := D) (ci := 0) (v := .ref h_t_rows) (C := RX0) (T := TX0) (N := 2) hx hb hts w2 hown hK hP 0 rfl rfl 1 (by decide) w1 (fun _ h9 => h9) rfl dX0_degree_1 ?_
  refine lv_iload_n hx hb dX0_degree_4 rfl (lv_at hl 1 rfl) ?_
  obtain ⟨g_1, hM⟩ := on_gdE hM
  refine va_iald hx hb hK hP 1 0 rfl rfl (on_ixE g_1) dX0_degree_5 ?_
  obtain ⟨q_2, hq_2, hM⟩ := on_bind hM
  refine on_callS0 (rest := []) (As := [.int (t_rows (Int32.toNatClampNeg v1))]) (st1 := [.int q_2]) ⟨hx, hb, hml, hown, hts⟩ (k_J6_bitCount_0f7a4 (t_rows (Int32.toNatClampNeg v1)) q_2 hq_2) (va_cwS 1 hts gX0_degree_J6_bitCount_0f7a4 rfl rfl rfl hdJ6_bitCount_0f7a4 ⟨(Nat.le_of_ble_eq_true rfl), (Nat.le_of_ble_eq_true rfl)⟩) hK hN hP hD hS hA rfl hl.1 rfl (Nat.le_of_ble_eq_true rfl) rfl dX0_degree_6 ⟨Nat.zero_le _, Nat.zero_le _⟩ (fun H locs hP hS => ?_)
  have hM := Option.some.inj hM
  subst hM
  rw [← hQ]
  exact on_iret hx hb hr hlk hP hD hS dX0_degree_9
abbrev rm_X0_joinedPairs : Room := { frames := 2, cells := 0, slots := 0, locals := 41 }
set_option maxHeartbeats 4000000 in
set_option maxRecDepth 100000 in
theorem k_X0_joinedPairs {l : Launch} {D : va_G} {cI cJ cZ cS cA : ClassId} (h_t : Nat) (h_t_rows : Nat) (t_many : Int32) (t_rows : Nat → Int32)  (out : Int32) (hM : M_X0_joinedPairs t_many t_rows = some out) : on_Con l yX0_joinedPairs wsX0_joinedPairs rm_X0_joinedPairs [.ref h_t] D (on_T cI cJ cZ cS cA) [(h_t, .inr (0, [.int t_many, .ref h_t_rows])), (h_t_rows, .inl (cI, 7, .inl t_rows))] (some (.int out)) [(h_t, .inr (0, [.int t_many, .ref h_t_rows])), (h_t_rows, .inl (cI, 7, .inl t_rows))] := by
  unfold M_X0_joinedPairs at hM
  refine on_enter (cc := cX0_joinedPairs) (nL := 3) (rt := (some .int)) (own := RX0) (by decide +kernel) rfl rfl (Nat.le_of_ble_eq_true rfl) ?_
  intro p e s m below meth c A ls hx hb hml hr hlk hts hown hA hK hN H locs hP hD hS hl
  have hl : lv_has ls 3 [(0, .ref h_t)] := hl
  generalize hQ : MQ below (on_Q D (some (.int out)) [(h_t, .inr (0, [.int t_many, .ref h_t_rows])), (h_t_rows, .inl (cI, 7, .inl t_rows))] A) _ s 0 0 A = Q
  generalize hAr : List.toArray ([.ref h_t] : List Value) = args at hts hQ ⊢
  have w1 := hts (.fieldLink RX0 9 "OddNets$Net" "many" "I") (by decide +kernel)
  have w2 : ∀ w ∈ wsX00, w ∈ wsX0_joinedPairs := by decide +kernel
  have lp_4 : ∀ (n : Nat) (v1 : Int32) (v2 : Int32) (x : Int32), on_loop (fun (s : Int32 × Int32) => B_X0_joinedPairs_4 t_many t_rows s.1 s.2) n (v1, v2) = some x → (∀ (H : Heap) (locs : List Loc), va_P D vwCl [(h_t, .inr (0, [.int t_many, .ref h_t_rows])), (h_t_rows, .inl (cI, 7, .inl t_rows))] H → va_D A [(h_t, .inr (0, [.int t_many, .ref h_t_rows])), (h_t_rows, .inl (cI, 7, .inl t_rows))] → va_S A s.heap H locs → ∀ ls : Array Slot, lv_has ls 3 [(1, .int x)] → W p l e rm_X0_joinedPairs s m args below meth c H locs 0 0 Q (F0 m 26 ls [])) → ∀ (H : Heap) (locs : List Loc), va_P D vwCl [(h_t, .inr (0, [.int t_many, .ref h_t_rows])), (h_t_rows, .inl (cI, 7, .inl t_rows))] H → va_D A [(h_t, .inr (0, [.int t_many, .ref h_t_rows])), (h_t_rows, .inl (cI, 7, .inl t_rows))] → va_S A s.heap H locs → ∀ ls : Array Slot, lv_has ls 3 [(0, .ref h_t), (1, .int v1), (2, .int v2)] → W p l e rm_X0_joinedPairs s m args below meth c H locs 0 0 Q (F0 m 4 ls []) := by
    intro n
    induction n with
    | zero =>
      intro v1 v2 x hL
      exact (on_loop0 hL).elim
    | succ n ih =>
      intro v1 v2 x hL K1 H locs hP hD hS ls hl
      obtain ⟨y, hM, hk⟩ := on_loopE hL
      have hM : B_X0_joinedPairs_4 t_many t_rows v1 v2 = some y := hM
      unfold B_X0_joinedPairs_4 at hM
      refine lv_iload_n hx hb dX0_joinedPairs_4 rfl (lv_at hl 2 rfl) ?_
      refine lv_aload_n hx hb dX0_joinedPairs_5 rfl (lv_at hl 0 rfl) ?_
      refine va_get (D := D) (ci := 0) (v := .int t_many) (C := RX0) (T := TX0) (N := 2) hx hb hts w2 hown hK hP 0 rfl rfl 0 (by decide) w1 (fun _ h9 => h9) rfl dX0_joinedPairs_6 ?_
      refine lv_icmp_ge (tgt := 26) hx hb dX0_joinedPairs_9 (by decide) (fun c_1 => ?_) (fun c_1 => ?_)
      · have hM := on_pos c_1 hM
        have hk := on_nxR hM hk
        subst hk
        exact K1 _ _ hP hD hS ls (lv_sub hl [1] rfl)
      · have hM := on_neg c_1 hM
        refine lv_iload_n hx hb dX0_joinedPairs_12 rfl (lv_at hl 1 rfl) ?_
        refine lv_aload_n hx hb dX0_joinedPairs_13 rfl (lv_at hl 0 rfl) ?_
        refine lv_iload_n hx hb dX0_joinedPairs_14 rfl (lv_at hl 2 rfl) ?_
        obtain ⟨q_2, hq_2, hM⟩ := on_bind hM
        refine on_callV (rest := [.int v1]) (As := [.int v2]) (st1 := [.int q_2, .int v1]) (C := RX0) (ci := 0) (q0 := 0) (wc := [(h_t, .inr (0, [.int t_many, .ref h_t_rows])), (h_t_rows, .inl (cI, 7, .inl t_rows))]) (wr := []) (wc' := [(h_t, .inr (0, [.int t_many, .ref h_t_rows])), (h_t_rows, .inl (cI, 7, .inl t_rows))]) (wf := [(h_t, .inr (0, [.int t_many, .ref h_t_rows])), (h_t_rows, .inl (cI, 7, .inl t_rows))]) (rt := (some (.int q_2))) ⟨hx, hb, hml, hown, hts⟩ (k_X0_degree h_t h_t_rows t_many t_rows v2 q_2 hq_2) (cwV 1 hts gX0_joinedPairs_X0_degree rfl rfl rfl ⟨rfl, hdX0_degree⟩ ⟨(Nat.le_of_ble_eq_true rfl), (Nat.le_of_ble_eq_true rfl)⟩) hK hN hP hD hS hA [0, 1] [] [0, 1] rfl rfl rfl rfl (by decide) rfl rfl rfl rfl rfl rfl hl.1 rfl (Nat.le_of_ble_eq_true rfl) rfl dX0_joinedPairs_15 ⟨Nat.zero_le _, Nat.zero_le _⟩ (fun H locs hP hD hS => ?_)
        refine lv_iadd hx hb dX0_joinedPairs_18 ?_
        refine lv_topi (fun v1_3 ev1_3 => ?_)
        have hM := on_letE ev1_3 hM
        refine lv_istore_n (lv' := [(1, .int v1_3), (0, .ref h_t), (2, .int v2)]) hx hb dX0_joinedPairs_19 rfl hl (by decide) rfl (fun ls hl => ?_)
        obtain ⟨v2_4, ev2_4⟩ : ∃ z : Int32, z = v2 + 1 := ⟨_, rfl⟩
        have hM := on_letE ev2_4 hM
        refine lv_iinc (v := v2_4) (lv' := [(2, .int v2_4), (1, .int v1_3), (0, .ref h_t)]) hx hb dX0_joinedPairs_20 hl (k := 2) rfl (by rw [ev2_4]; rfl) (by decide) rfl (fun ls hl => ?_)
        refine lv_goto (tgt := 4) hx hb dX0_joinedPairs_23 (by decide) ?_
        have hk := on_nxL hM hk
        exact ih v1_3 v2_4 _ hk K1 _ _ hP hD hS ls (lv_sub hl [2, 1, 0] rfl)
  refine lv_iconst (v := 0) hx hb dX0_joinedPairs_0 (by decide) ?_
  refine lv_istore_n (lv' := [(1, .int (0 : Int32)), (0, .ref h_t)]) hx hb dX0_joinedPairs_1 rfl hl (by decide) rfl (fun ls hl => ?_)
  refine lv_iconst (v := 0) hx hb dX0_joinedPairs_2 (by decide) ?_
  refine lv_istore_n (lv' := [(2, .int (0 : Int32)), (1, .int (0 : Int32)), (0, .ref h_t)]) hx hb dX0_joinedPairs_3 rfl hl (by decide) rfl (fun ls hl => ?_)
  obtain ⟨q_5, hq_5, hM⟩ := on_bind hM
  refine lp_4  on_F (0 : Int32) (0 : Int32) q_5 hq_5 (fun H locs hP hD hS ls hl => ?_) H locs hP hD hS ls (lv_sub hl [2, 1, 0] rfl)
  refine lv_iload_n hx hb dX0_joinedPairs_26 rfl (lv_at hl 0 rfl) ?_
  refine lv_iconst (v := 2) hx hb dX0_joinedPairs_27 (by decide) ?_
  refine lv_idiv hx hb dX0_joinedPairs_28 (by decide) ?_
  have hM := Option.some.inj hM
  subst hM
  rw [← hQ]
  exact on_iret hx hb hr hlk hP hD hS dX0_joinedPairs_29
abbrev rm_X5_join : Room := { frames := 3, cells := 0, slots := 0, locals := 69 }
set_option maxHeartbeats 4000000 in
set_option maxRecDepth 100000 in
theorem k_X5_join {l : Launch} {D : va_G} {cI cJ cZ cS cA : ClassId} (h_t : Nat) (h_t_now : Nat) (h_t_images : Nat) (h_t_pad : Nat) (h_t_net : Nat) (h_t_second : Nat) (h_t_renumbering : Nat) (h_t_table : Nat) (h_t_marks : Nat) (h_t_now_numbers : Nat) (h_t_net_rows : Nat) (t_now_many : Int32) (t_now_numbers : Nat → Int32) (t_net_many : Int32) (t_net_rows : Nat → Int32) (v1 : Int32) (v2 : Int32) (v3 : Int32) (v4 : Int32) (out : Int32 × (Nat → Int32) × Int32 × (Nat → Int32)) (hM : M_X5_join v1 v2 v3 v4 t_now_many t_now_numbers t_net_many t_net_rows = some out) : on_Con l yX5_join wsX5_join rm_X5_join [.ref h_t, .int v1, .int v2, .int v3, .int v4] D (on_T cI cJ cZ cS cA) [(h_t, .inr (5, [.ref h_t_now, .ref h_t_images, .ref h_t_pad, .ref h_t_net, .ref h_t_second, .ref h_t_renumbering, .ref h_t_table, .ref h_t_marks])), (h_t_now, .inr (3, [.int t_now_many, .ref h_t_now_numbers])), (h_t_now_numbers, .inl (cI, 3, .inl t_now_numbers)), (h_t_net, .inr (0, [.int t_net_many, .ref h_t_net_rows])), (h_t_net_rows, .inl (cI, 7, .inl t_net_rows))] (some (.int out.1)) [(h_t, .inr (5, [.ref h_t_now, .ref h_t_images, .ref h_t_pad, .ref h_t_net, .ref h_t_second, .ref h_t_renumbering, .ref h_t_table, .ref h_t_marks])), (h_t_now, .inr (3, [.int t_now_many, .ref h_t_now_numbers])), (h_t_now_numbers, .inl (cI, 3, .inl out.2.1)), (h_t_net, .inr (0, [.int out.2.2.1, .ref h_t_net_rows])), (h_t_net_rows, .inl (cI, 7, .inl out.2.2.2))] := by
  unfold M_X5_join at hM
  refine on_enter (cc := cX5_join) (nL := 5) (rt := (some .int)) (own := RX5) (by decide +kernel) rfl rfl (Nat.le_of_ble_eq_true rfl) ?_
  intro p e s m below meth c A ls hx hb hml hr hlk hts hown hA hK hN H locs hP hD hS hl
  have hl : lv_has ls 5 [(0, .ref h_t), (1, .int v1), (2, .int v2), (3, .int v3), (4, .int v4)] := hl
  generalize hQ : MQ below (on_Q D (some (.int out.1)) [(h_t, .inr (5, [.ref h_t_now, .ref h_t_images, .ref h_t_pad, .ref h_t_net, .ref h_t_second, .ref h_t_renumbering, .ref h_t_table, .ref h_t_marks])), (h_t_now, .inr (3, [.int t_now_many, .ref h_t_now_numbers])), (h_t_now_numbers, .inl (cI, 3, .inl out.2.1)), (h_t_net, .inr (0, [.int out.2.2.1, .ref h_t_net_rows])), (h_t_net_rows, .inl (cI, 7, .inl out.2.2.2))] A) _ s 0 0 A = Q
  generalize hAr : List.toArray ([.ref h_t, .int v1, .int v2, .int v3, .int v4] : List Value) = args at hts hQ ⊢
  have w1 := hts (.fieldLink RX5 30 "OddNets" "net" "LOddNets$Net;") (by decide +kernel)
  have w2 : ∀ w ∈ wsX50, w ∈ wsX5_join := by decide +kernel
  have w3 := hts (.initialized RX0) (by decide +kernel)
  have w4 := hts (.instanceMethod yX0_connect) (by decide +kernel)
  have w5 := hts (.selects RX0 yX0_connect yX0_connect) (by decide +kernel)
  have w6 := hts (.fieldLink RX5 10 "OddNets" "now" "LOddNets$Shelf;") (by decide +kernel)
  have w7 : ∀ w ∈ wsX30, w ∈ wsX5_join := by decide +kernel
  have w8 := hts (.instanceMethod yX0_number) (by decide +kernel)
  have w9 := hts (.selects RX0 yX0_number yX0_number) (by decide +kernel)
  have w10 := hts (.instanceMethod yX0_joinedPairs) (by decide +kernel)
  have w11 := hts (.selects RX0 yX0_joinedPairs yX0_joinedPairs) (by decide +kernel)
  refine lv_iload_n hx hb dX5_join_0 rfl (lv_at hl 1 rfl) ?_
  obtain ⟨q_1, hq_1, hM⟩ := on_bind hM
  refine on_callS0 (rest := []) (As := [.int v1]) (st1 := [.int q_1]) ⟨hx, hb, hml, hown, hts⟩ (k_X5_isSlot v1 q_1 hq_1) (va_cwS 1 hts gX5_join_X5_isSlot rfl rfl rfl hdX5_isSlot ⟨(Nat.le_of_ble_eq_true rfl), (Nat.le_of_ble_eq_true rfl)⟩) hK hN hP hD hS hA rfl hl.1 rfl (Nat.le_of_ble_eq_true rfl) rfl dX5_join_1 ⟨Nat.zero_le _, Nat.zero_le _⟩ (fun H locs hP hS => ?_)
  refine lv_if_eq (tgt := 23) hx hb dX5_join_4 (by decide) (fun c_2 => ?_) (fun c_2 => ?_)
  · have hM := on_pos c_2 hM
    refine lv_iconst (v := -1) hx hb dX5_join_23 (by decide) ?_
    have hM := Option.some.inj hM
    subst hM
    rw [← hQ]
    exact on_iret hx hb hr hlk hP hD hS dX5_join_24
  · have hM := on_neg c_2 hM
    refine lv_aload_n hx hb dX5_join_7 rfl (lv_at hl 0 rfl) ?_
    refine lv_iload_n hx hb dX5_join_8 rfl (lv_at hl 2 rfl) ?_
    obtain ⟨q_3, hq_3, hM⟩ := on_bind hM
    refine on_callV (rest := []) (As := [.int v2]) (st1 := [.int q_3]) (C := RX5) (ci := 5) (q0 := 0) (wc := [(h_t, .inr (5, [.ref h_t_now, .ref h_t_images, .ref h_t_pad, .ref h_t_net, .ref h_t_second, .ref h_t_renumbering, .ref h_t_table, .ref h_t_marks])), (h_t_now, .inr (3, [.int t_now_many, .ref h_t_now_numbers]))]) (wr := [(h_t_now_numbers, .inl (cI, 3, .inl t_now_numbers)), (h_t_net, .inr (0, [.int t_net_many, .ref h_t_net_rows])), (h_t_net_rows, .inl (cI, 7, .inl t_net_rows))]) (wc' := [(h_t, .inr (5, [.ref h_t_now, .ref h_t_images, .ref h_t_pad, .ref h_t_net, .ref h_t_second, .ref h_t_renumbering, .ref h_t_table, .ref h_t_marks])), (h_t_now, .inr (3, [.int t_now_many, .ref h_t_now_numbers]))]) (wf := [(h_t, .inr (5, [.ref h_t_now, .ref h_t_images, .ref h_t_pad, .ref h_t_net, .ref h_t_second, .ref h_t_renumbering, .ref h_t_table, .ref h_t_marks])), (h_t_now, .inr (3, [.int t_now_many, .ref h_t_now_numbers])), (h_t_now_numbers, .inl (cI, 3, .inl t_now_numbers)), (h_t_net, .inr (0, [.int t_net_many, .ref h_t_net_rows])), (h_t_net_rows, .inl (cI, 7, .inl t_net_rows))]) (rt := (some (.int q_3))) ⟨hx, hb, hml, hown, hts⟩ (k_X5_isNode h_t h_t_now h_t_images h_t_pad h_t_net h_t_second h_t_renumbering h_t_table h_t_marks h_t_now_numbers t_now_many v2 q_3 hq_3) (cwV 1 hts gX5_join_X5_isNode rfl rfl rfl ⟨rfl, hdX5_isNode⟩ ⟨(Nat.le_of_ble_eq_true rfl), (Nat.le_of_ble_eq_true rfl)⟩) hK hN hP hD hS hA [0, 1] [2, 3, 4] [3, 4, 0, 1, 2] rfl rfl rfl rfl (by decide) rfl rfl rfl rfl rfl rfl hl.1 rfl (Nat.le_of_ble_eq_true rfl) rfl dX5_join_9 ⟨Nat.zero_le _, Nat.zero_le _⟩ (fun H locs hP hD hS => ?_)
    refine lv_if_eq (tgt := 23) hx hb dX5_join_12 (by decide) (fun c_4 => ?_) (fun c_4 => ?_)
    · have hM := on_pos c_4 hM
      refine lv_iconst (v := -1) hx hb dX5_join_23 (by decide) ?_
      have hM := Option.some.inj hM
      subst hM
      rw [← hQ]
      exact on_iret hx hb hr hlk hP hD hS dX5_join_24
    · have hM := on_neg c_4 hM
      refine lv_aload_n hx hb dX5_join_15 rfl (lv_at hl 0 rfl) ?_
      refine lv_iload_n hx hb dX5_join_16 rfl (lv_at hl 3 rfl) ?_
      obtain ⟨q_5, hq_5, hM⟩ := on_bind hM
      refine on_callV (rest := []) (As := [.int v3]) (st1 := [.int q_5]) (C := RX5) (ci := 5) (q0 := 0) (wc := [(h_t, .inr (5, [.ref h_t_now, .ref h_t_images, .ref h_t_pad, .ref h_t_net, .ref h_t_second, .ref h_t_renumbering, .ref h_t_table, .ref h_t_marks])), (h_t_now, .inr (3, [.int t_now_many, .ref h_t_now_numbers]))]) (wr := [(h_t_now_numbers, .inl (cI, 3, .inl t_now_numbers)), (h_t_net, .inr (0, [.int t_net_many, .ref h_t_net_rows])), (h_t_net_rows, .inl (cI, 7, .inl t_net_rows))]) (wc' := [(h_t, .inr (5, [.ref h_t_now, .ref h_t_images, .ref h_t_pad, .ref h_t_net, .ref h_t_second, .ref h_t_renumbering, .ref h_t_table, .ref h_t_marks])), (h_t_now, .inr (3, [.int t_now_many, .ref h_t_now_numbers]))]) (wf := [(h_t, .inr (5, [.ref h_t_now, .ref h_t_images, .ref h_t_pad, .ref h_t_net, .ref h_t_second, .ref h_t_renumbering, .ref h_t_table, .ref h_t_marks])), (h_t_now, .inr (3, [.int t_now_many, .ref h_t_now_numbers])), (h_t_now_numbers, .inl (cI, 3, .inl t_now_numbers)), (h_t_net, .inr (0, [.int t_net_many, .ref h_t_net_rows])), (h_t_net_rows, .inl (cI, 7, .inl t_net_rows))]) (rt := (some (.int q_5))) ⟨hx, hb, hml, hown, hts⟩ (k_X5_isNode h_t h_t_now h_t_images h_t_pad h_t_net h_t_second h_t_renumbering h_t_table h_t_marks h_t_now_numbers t_now_many v3 q_5 hq_5) (cwV 1 hts gX5_join_X5_isNode rfl rfl rfl ⟨rfl, hdX5_isNode⟩ ⟨(Nat.le_of_ble_eq_true rfl), (Nat.le_of_ble_eq_true rfl)⟩) hK hN hP hD hS hA [0, 1] [2, 3, 4] [3, 4, 0, 1, 2] rfl rfl rfl rfl (by decide) rfl rfl rfl rfl rfl rfl hl.1 rfl (Nat.le_of_ble_eq_true rfl) rfl dX5_join_17 ⟨Nat.zero_le _, Nat.zero_le _⟩ (fun H locs hP hD hS => ?_)
      refine lv_if_ne (tgt := 25) hx hb dX5_join_20 (by decide) (fun c_6 => ?_) (fun c_6 => ?_)
      · have hM := on_neg c_6 hM
        refine lv_iload_n hx hb dX5_join_25 rfl (lv_at hl 2 rfl) ?_
        refine lv_iload_n hx hb dX5_join_26 rfl (lv_at hl 3 rfl) ?_
        refine lv_icmp_eq (tgt := 40) hx hb dX5_join_27 (by decide) (fun c_7 => ?_) (fun c_7 => ?_)
        · have hM := on_pos c_7 hM
          refine lv_bipush (v := -2) hx hb dX5_join_40 (by decide) ?_
          have hM := Option.some.inj hM
          subst hM
          rw [← hQ]
          exact on_iret hx hb hr hlk hP hD hS dX5_join_42
        · have hM := on_neg c_7 hM
          refine lv_iload hx hb dX5_join_30 (lv_at hl 4 rfl) ?_
          refine lv_iconst (v := 0) hx hb dX5_join_32 (by decide) ?_
          refine lv_iconst (v := 1) hx hb dX5_join_33 (by decide) ?_
          obtain ⟨q_8, hq_8, hM⟩ := on_bind hM
          refine on_callS0 (rest := []) (As := [.int v4, .int (0 : Int32), .int (1 : Int32)]) (st1 := [.int q_8]) ⟨hx, hb, hml, hown, hts⟩ (k_X5_within v4 (0 : Int32) (1 : Int32) q_8 hq_8) (va_cwS 3 hts gX5_join_X5_within rfl rfl rfl hdX5_within ⟨(Nat.le_of_ble_eq_true rfl), (Nat.le_of_ble_eq_true rfl)⟩) hK hN hP hD hS hA rfl hl.1 rfl (Nat.le_of_ble_eq_true rfl) rfl dX5_join_34 ⟨Nat.zero_le _, Nat.zero_le _⟩ (fun H locs hP hS => ?_)
          refine lv_if_ne (tgt := 43) hx hb dX5_join_37 (by decide) (fun c_9 => ?_) (fun c_9 => ?_)
          · have hM := on_neg c_9 hM
            refine lv_aload_n hx hb dX5_join_43 rfl (lv_at hl 0 rfl) ?_
            refine lv_aload_n hx hb dX5_join_44 rfl (lv_at hl 0 rfl) ?_
            refine va_get (D := D) (ci := 5) (v := .ref h_t_net) (C := RX5) (T := TX5) (N := 8) hx hb hts w2 hown hK hP 0 rfl rfl 3 (by decide) w1 (fun _ h9 => h9) rfl dX5_join_45 ?_
            refine lv_iload_n hx hb dX5_join_48 rfl (lv_at hl 1 rfl) ?_
            obtain ⟨q_10, hq_10, hM⟩ := on_bind hM
            refine on_callV (rest := []) (As := [.ref h_t_net, .int v1]) (st1 := []) (C := RX5) (ci := 5) (q0 := 0) (wc := [(h_t, .inr (5, [.ref h_t_now, .ref h_t_images, .ref h_t_pad, .ref h_t_net, .ref h_t_second, .ref h_t_renumbering, .ref h_t_table, .ref h_t_marks])), (h_t_now, .inr (3, [.int t_now_many, .ref h_t_now_numbers])), (h_t_now_numbers, .inl (cI, 3, .inl t_now_numbers)), (h_t_net, .inr (0, [.int t_net_many, .ref h_t_net_rows])), (h_t_net_rows, .inl (cI, 7, .inl t_net_rows))]) (wr := []) (wc' := [(h_t, .inr (5, [.ref h_t_now, .ref h_t_images, .ref h_t_pad, .ref h_t_net, .ref h_t_second, .ref h_t_renumbering, .ref h_t_table, .ref h_t_marks])), (h_t_now, .inr (3, [.int t_now_many, .ref h_t_now_numbers])), (h_t_now_numbers, .inl (cI, 3, .inl t_now_numbers)), (h_t_net, .inr (0, [.int q_10.1, .ref h_t_net_rows])), (h_t_net_rows, .inl (cI, 7, .inl q_10.2))]) (wf := [(h_t, .inr (5, [.ref h_t_now, .ref h_t_images, .ref h_t_pad, .ref h_t_net, .ref h_t_second, .ref h_t_renumbering, .ref h_t_table, .ref h_t_marks])), (h_t_now, .inr (3, [.int t_now_many, .ref h_t_now_numbers])), (h_t_now_numbers, .inl (cI, 3, .inl t_now_numbers)), (h_t_net, .inr (0, [.int q_10.1, .ref h_t_net_rows])), (h_t_net_rows, .inl (cI, 7, .inl q_10.2))]) (rt := none) ⟨hx, hb, hml, hown, hts⟩ (k_X5_load h_t h_t_now h_t_images h_t_pad h_t_net h_t_second h_t_renumbering h_t_table h_t_marks h_t_now_numbers h_t_net h_t_net_rows t_now_many t_now_numbers t_net_many t_net_rows v1 q_10 hq_10) (cwV 2 hts gX5_join_X5_load rfl rfl rfl ⟨rfl, hdX5_load⟩ ⟨(Nat.le_of_ble_eq_true rfl), (Nat.le_of_ble_eq_true rfl)⟩) hK hN hP hD hS hA [0, 1, 2, 3, 4] [] [0, 1, 2, 3, 4] rfl rfl rfl rfl (by decide) rfl rfl rfl rfl rfl rfl hl.1 rfl (Nat.le_of_ble_eq_true rfl) rfl dX5_join_49 ⟨Nat.zero_le _, Nat.zero_le _⟩ (fun H locs hP hD hS => ?_)
            refine lv_aload_n hx hb dX5_join_52 rfl (lv_at hl 0 rfl) ?_
            refine va_get (D := D) (ci := 5) (v := .ref h_t_net) (C := RX5) (T := TX5) (N := 8) hx hb hts w2 hown hK hP 0 rfl rfl 3 (by decide) w1 (fun _ h9 => h9) rfl dX5_join_53 ?_
            refine lv_iload_n hx hb dX5_join_56 rfl (lv_at hl 2 rfl) ?_
            refine lv_iload_n hx hb dX5_join_57 rfl (lv_at hl 3 rfl) ?_
            refine lv_iload hx hb dX5_join_58 (lv_at hl 4 rfl) ?_
            refine lv_iconst (v := 1) hx hb dX5_join_60 (by decide) ?_
            refine lv_icmp_ne (tgt := 68) hx hb dX5_join_61 (by decide) (fun c_11 => ?_) (fun c_11 => ?_)
            · have hM := on_neg c_11 hM
              refine lv_iconst (v := 0) hx hb dX5_join_68 (by decide) ?_
              obtain ⟨q_12, hq_12, hM⟩ := on_bind hM
              refine on_callVN (rest := []) (As := [.int v2, .int v3, .int (0 : Int32)]) (st1 := []) (C := RX0) (ci := 0) (q0 := 3) (wc := [(h_t_net, .inr (0, [.int q_10.1, .ref h_t_net_rows])), (h_t_net_rows, .inl (cI, 7, .inl q_10.2))]) (wr := [(h_t, .inr (5, [.ref h_t_now, .ref h_t_images, .ref h_t_pad, .ref h_t_net, .ref h_t_second, .ref h_t_renumbering, .ref h_t_table, .ref h_t_marks])), (h_t_now, .inr (3, [.int t_now_many, .ref h_t_now_numbers])), (h_t_now_numbers, .inl (cI, 3, .inl t_now_numbers))]) (wc' := [(h_t_net, .inr (0, [.int q_10.1, .ref h_t_net_rows])), (h_t_net_rows, .inl (cI, 7, .inl q_12))]) (wf := [(h_t, .inr (5, [.ref h_t_now, .ref h_t_images, .ref h_t_pad, .ref h_t_net, .ref h_t_second, .ref h_t_renumbering, .ref h_t_table, .ref h_t_marks])), (h_t_now, .inr (3, [.int t_now_many, .ref h_t_now_numbers])), (h_t_now_numbers, .inl (cI, 3, .inl t_now_numbers)), (h_t_net, .inr (0, [.int q_10.1, .ref h_t_net_rows])), (h_t_net_rows, .inl (cI, 7, .inl q_12))]) (rt := none) ⟨hx, hb, hml, hown, hts⟩ (k_X0_connect h_t_net h_t_net_rows q_10.1 q_10.2 v2 v3 (0 : Int32) q_12 hq_12) ⟨va_cnB 3 hts gX5_join_X0_connect_n78 rfl rfl rfl (hN _ (List.mem_of_getElem? (i := 18) rfl)) w3 hdX0_connect ⟨(Nat.le_of_ble_eq_true rfl), (Nat.le_of_ble_eq_true rfl)⟩, w4, w5⟩ hK hN hP hD hS hA [3, 4] [0, 1, 2] [0, 1, 2, 3, 4] rfl rfl rfl rfl (by decide) rfl rfl rfl rfl rfl rfl hl.1 rfl (Nat.le_of_ble_eq_true rfl) rfl dX5_join_69 ⟨Nat.zero_le _, Nat.zero_le _⟩ (fun H locs hP hD hS => ?_)
              refine lv_aload_n hx hb dX5_join_72 rfl (lv_at hl 0 rfl) ?_
              refine va_get (D := D) (ci := 5) (v := .ref h_t_now) (C := RX5) (T := TX5) (N := 8) hx hb hts w2 hown hK hP 0 rfl rfl 0 (by decide) w6 (fun _ h9 => h9) rfl dX5_join_73 ?_
              refine va_getN (D := D) (ci := 3) (v := .ref h_t_now_numbers) (C := RX3) (T := TX3) (N := 2) hx hb hts w7 hown hK hP 1 rfl rfl 1 (by decide) (va_Nw.use rfl (hN _ (List.mem_of_getElem? (i := 1) rfl))) (fun _ h9 => h9) rfl dX5_join_76 ?_
              refine lv_iload_n hx hb dX5_join_79 rfl (lv_at hl 1 rfl) ?_
              refine lv_aload_n hx hb dX5_join_80 rfl (lv_at hl 0 rfl) ?_
              refine va_get (D := D) (ci := 5) (v := .ref h_t_net) (C := RX5) (T := TX5) (N := 8) hx hb hts w2 hown hK hP 0 rfl rfl 3 (by decide) w1 (fun _ h9 => h9) rfl dX5_join_81 ?_
              obtain ⟨q_13, hq_13, hM⟩ := on_bind hM
              refine on_callVN (rest := [.int v1, .ref h_t_now_numbers]) (As := []) (st1 := [.int q_13, .int v1, .ref h_t_now_numbers]) (C := RX0) (ci := 0) (q0 := 3) (wc := [(h_t_net, .inr (0, [.int q_10.1, .ref h_t_net_rows])), (h_t_net_rows, .inl (cI, 7, .inl q_12))]) (wr := [(h_t, .inr (5, [.ref h_t_now, .ref h_t_images, .ref h_t_pad, .ref h_t_net, .ref h_t_second, .ref h_t_renumbering, .ref h_t_table, .ref h_t_marks])), (h_t_now, .inr (3, [.int t_now_many, .ref h_t_now_numbers])), (h_t_now_numbers, .inl (cI, 3, .inl t_now_numbers))]) (wc' := [(h_t_net, .inr (0, [.int q_10.1, .ref h_t_net_rows])), (h_t_net_rows, .inl (cI, 7, .inl q_12))]) (wf := [(h_t, .inr (5, [.ref h_t_now, .ref h_t_images, .ref h_t_pad, .ref h_t_net, .ref h_t_second, .ref h_t_renumbering, .ref h_t_table, .ref h_t_marks])), (h_t_now, .inr (3, [.int t_now_many, .ref h_t_now_numbers])), (h_t_now_numbers, .inl (cI, 3, .inl t_now_numbers)), (h_t_net, .inr (0, [.int q_10.1, .ref h_t_net_rows])), (h_t_net_rows, .inl (cI, 7, .inl q_12))]) (rt := (some (.int q_13))) ⟨hx, hb, hml, hown, hts⟩ (k_X0_number h_t_net h_t_net_rows q_10.1 q_12 q_13 hq_13) ⟨va_cnB 0 hts gX5_join_X0_number_n85 rfl rfl rfl (hN _ (List.mem_of_getElem? (i := 19) rfl)) w3 hdX0_number ⟨(Nat.le_of_ble_eq_true rfl), (Nat.le_of_ble_eq_true rfl)⟩, w8, w9⟩ hK hN hP hD hS hA [3, 4] [0, 1, 2] [0, 1, 2, 3, 4] rfl rfl rfl rfl (by decide) rfl rfl rfl rfl rfl rfl hl.1 rfl (Nat.le_of_ble_eq_true rfl) rfl dX5_join_84 ⟨Nat.zero_le _, Nat.zero_le _⟩ (fun H locs hP hD hS => ?_)
              obtain ⟨g_14, hM⟩ := on_gdE hM
              refine va_iast hx hb hK hP hD hS 2 0 rfl rfl (on_ixE g_14) dX5_join_87 (fun H locs hP hD hS => ?_)
              have hP : va_P D vwCl [(h_t, .inr (5, [.ref h_t_now, .ref h_t_images, .ref h_t_pad, .ref h_t_net, .ref h_t_second, .ref h_t_renumbering, .ref h_t_table, .ref h_t_marks])), (h_t_now, .inr (3, [.int t_now_many, .ref h_t_now_numbers])), (h_t_now_numbers, .inl (cI, 3, .inl (upd t_now_numbers (Int32.toNatClampNeg v1) q_13))), (h_t_net, .inr (0, [.int q_10.1, .ref h_t_net_rows])), (h_t_net_rows, .inl (cI, 7, .inl q_12))] H := hP
              have hD : va_D A [(h_t, .inr (5, [.ref h_t_now, .ref h_t_images, .ref h_t_pad, .ref h_t_net, .ref h_t_second, .ref h_t_renumbering, .ref h_t_table, .ref h_t_marks])), (h_t_now, .inr (3, [.int t_now_many, .ref h_t_now_numbers])), (h_t_now_numbers, .inl (cI, 3, .inl (upd t_now_numbers (Int32.toNatClampNeg v1) q_13))), (h_t_net, .inr (0, [.int q_10.1, .ref h_t_net_rows])), (h_t_net_rows, .inl (cI, 7, .inl q_12))] := hD
              refine lv_aload_n hx hb dX5_join_88 rfl (lv_at hl 0 rfl) ?_
              refine va_get (D := D) (ci := 5) (v := .ref h_t_net) (C := RX5) (T := TX5) (N := 8) hx hb hts w2 hown hK hP 0 rfl rfl 3 (by decide) w1 (fun _ h9 => h9) rfl dX5_join_89 ?_
              obtain ⟨q_15, hq_15, hM⟩ := on_bind hM
              refine on_callVN (rest := []) (As := []) (st1 := [.int q_15]) (C := RX0) (ci := 0) (q0 := 3) (wc := [(h_t_net, .inr (0, [.int q_10.1, .ref h_t_net_rows])), (h_t_net_rows, .inl (cI, 7, .inl q_12))]) (wr := [(h_t, .inr (5, [.ref h_t_now, .ref h_t_images, .ref h_t_pad, .ref h_t_net, .ref h_t_second, .ref h_t_renumbering, .ref h_t_table, .ref h_t_marks])), (h_t_now, .inr (3, [.int t_now_many, .ref h_t_now_numbers])), (h_t_now_numbers, .inl (cI, 3, .inl (upd t_now_numbers (Int32.toNatClampNeg v1) q_13)))]) (wc' := [(h_t_net, .inr (0, [.int q_10.1, .ref h_t_net_rows])), (h_t_net_rows, .inl (cI, 7, .inl q_12))]) (wf := [(h_t, .inr (5, [.ref h_t_now, .ref h_t_images, .ref h_t_pad, .ref h_t_net, .ref h_t_second, .ref h_t_renumbering, .ref h_t_table, .ref h_t_marks])), (h_t_now, .inr (3, [.int t_now_many, .ref h_t_now_numbers])), (h_t_now_numbers, .inl (cI, 3, .inl (upd t_now_numbers (Int32.toNatClampNeg v1) q_13))), (h_t_net, .inr (0, [.int q_10.1, .ref h_t_net_rows])), (h_t_net_rows, .inl (cI, 7, .inl q_12))]) (rt := (some (.int q_15))) ⟨hx, hb, hml, hown, hts⟩ (k_X0_joinedPairs h_t_net h_t_net_rows q_10.1 q_12 q_15 hq_15) ⟨va_cnB 0 hts gX5_join_X0_joinedPairs_n89 rfl rfl rfl (hN _ (List.mem_of_getElem? (i := 20) rfl)) w3 hdX0_joinedPairs ⟨(Nat.le_of_ble_eq_true rfl), (Nat.le_of_ble_eq_true rfl)⟩, w10, w11⟩ hK hN hP hD hS hA [3, 4] [0, 1, 2] [0, 1, 2, 3, 4] rfl rfl rfl rfl (by decide) rfl rfl rfl rfl rfl rfl hl.1 rfl (Nat.le_of_ble_eq_true rfl) rfl dX5_join_92 ⟨Nat.zero_le _, Nat.zero_le _⟩ (fun H locs hP hD hS => ?_)
              have hM := Option.some.inj hM
              subst hM
              rw [← hQ]
              exact on_iret hx hb hr hlk hP hD hS dX5_join_95
            · have hM := on_pos c_11 hM
              refine lv_iconst (v := 1) hx hb dX5_join_64 (by decide) ?_
              refine lv_goto (tgt := 69) hx hb dX5_join_65 (by decide) ?_
              obtain ⟨q_16, hq_16, hM⟩ := on_bind hM
              refine on_callVN (rest := []) (As := [.int v2, .int v3, .int (1 : Int32)]) (st1 := []) (C := RX0) (ci := 0) (q0 := 3) (wc := [(h_t_net, .inr (0, [.int q_10.1, .ref h_t_net_rows])), (h_t_net_rows, .inl (cI, 7, .inl q_10.2))]) (wr := [(h_t, .inr (5, [.ref h_t_now, .ref h_t_images, .ref h_t_pad, .ref h_t_net, .ref h_t_second, .ref h_t_renumbering, .ref h_t_table, .ref h_t_marks])), (h_t_now, .inr (3, [.int t_now_many, .ref h_t_now_numbers])), (h_t_now_numbers, .inl (cI, 3, .inl t_now_numbers))]) (wc' := [(h_t_net, .inr (0, [.int q_10.1, .ref h_t_net_rows])), (h_t_net_rows, .inl (cI, 7, .inl q_16))]) (wf := [(h_t, .inr (5, [.ref h_t_now, .ref h_t_images, .ref h_t_pad, .ref h_t_net, .ref h_t_second, .ref h_t_renumbering, .ref h_t_table, .ref h_t_marks])), (h_t_now, .inr (3, [.int t_now_many, .ref h_t_now_numbers])), (h_t_now_numbers, .inl (cI, 3, .inl t_now_numbers)), (h_t_net, .inr (0, [.int q_10.1, .ref h_t_net_rows])), (h_t_net_rows, .inl (cI, 7, .inl q_16))]) (rt := none) ⟨hx, hb, hml, hown, hts⟩ (k_X0_connect h_t_net h_t_net_rows q_10.1 q_10.2 v2 v3 (1 : Int32) q_16 hq_16) ⟨va_cnB 3 hts gX5_join_X0_connect_n78 rfl rfl rfl (hN _ (List.mem_of_getElem? (i := 18) rfl)) w3 hdX0_connect ⟨(Nat.le_of_ble_eq_true rfl), (Nat.le_of_ble_eq_true rfl)⟩, w4, w5⟩ hK hN hP hD hS hA [3, 4] [0, 1, 2] [0, 1, 2, 3, 4] rfl rfl rfl rfl (by decide) rfl rfl rfl rfl rfl rfl hl.1 rfl (Nat.le_of_ble_eq_true rfl) rfl dX5_join_69 ⟨Nat.zero_le _, Nat.zero_le _⟩ (fun H locs hP hD hS => ?_)
              refine lv_aload_n hx hb dX5_join_72 rfl (lv_at hl 0 rfl) ?_
              refine va_get (D := D) (ci := 5) (v := .ref h_t_now) (C := RX5) (T := TX5) (N := 8) hx hb hts w2 hown hK hP 0 rfl rfl 0 (by decide) w6 (fun _ h9 => h9) rfl dX5_join_73 ?_
              refine va_getN (D := D) (ci := 3) (v := .ref h_t_now_numbers) (C := RX3) (T := TX3) (N := 2) hx hb hts w7 hown hK hP 1 rfl rfl 1 (by decide) (va_Nw.use rfl (hN _ (List.mem_of_getElem? (i := 1) rfl))) (fun _ h9 => h9) rfl dX5_join_76 ?_
              refine lv_iload_n hx hb dX5_join_79 rfl (lv_at hl 1 rfl) ?_
              refine lv_aload_n hx hb dX5_join_80 rfl (lv_at hl 0 rfl) ?_
              refine va_get (D := D) (ci := 5) (v := .ref h_t_net) (C := RX5) (T := TX5) (N := 8) hx hb hts w2 hown hK hP 0 rfl rfl 3 (by decide) w1 (fun _ h9 => h9) rfl dX5_join_81 ?_
              obtain ⟨q_17, hq_17, hM⟩ := on_bind hM
              refine on_callVN (rest := [.int v1, .ref h_t_now_numbers]) (As := []) (st1 := [.int q_17, .int v1, .ref h_t_now_numbers]) (C := RX0) (ci := 0) (q0 := 3) (wc := [(h_t_net, .inr (0, [.int q_10.1, .ref h_t_net_rows])), (h_t_net_rows, .inl (cI, 7, .inl q_16))]) (wr := [(h_t, .inr (5, [.ref h_t_now, .ref h_t_images, .ref h_t_pad, .ref h_t_net, .ref h_t_second, .ref h_t_renumbering, .ref h_t_table, .ref h_t_marks])), (h_t_now, .inr (3, [.int t_now_many, .ref h_t_now_numbers])), (h_t_now_numbers, .inl (cI, 3, .inl t_now_numbers))]) (wc' := [(h_t_net, .inr (0, [.int q_10.1, .ref h_t_net_rows])), (h_t_net_rows, .inl (cI, 7, .inl q_16))]) (wf := [(h_t, .inr (5, [.ref h_t_now, .ref h_t_images, .ref h_t_pad, .ref h_t_net, .ref h_t_second, .ref h_t_renumbering, .ref h_t_table, .ref h_t_marks])), (h_t_now, .inr (3, [.int t_now_many, .ref h_t_now_numbers])), (h_t_now_numbers, .inl (cI, 3, .inl t_now_numbers)), (h_t_net, .inr (0, [.int q_10.1, .ref h_t_net_rows])), (h_t_net_rows, .inl (cI, 7, .inl q_16))]) (rt := (some (.int q_17))) ⟨hx, hb, hml, hown, hts⟩ (k_X0_number h_t_net h_t_net_rows q_10.1 q_16 q_17 hq_17) ⟨va_cnB 0 hts gX5_join_X0_number_n85 rfl rfl rfl (hN _ (List.mem_of_getElem? (i := 19) rfl)) w3 hdX0_number ⟨(Nat.le_of_ble_eq_true rfl), (Nat.le_of_ble_eq_true rfl)⟩, w8, w9⟩ hK hN hP hD hS hA [3, 4] [0, 1, 2] [0, 1, 2, 3, 4] rfl rfl rfl rfl (by decide) rfl rfl rfl rfl rfl rfl hl.1 rfl (Nat.le_of_ble_eq_true rfl) rfl dX5_join_84 ⟨Nat.zero_le _, Nat.zero_le _⟩ (fun H locs hP hD hS => ?_)
              obtain ⟨g_18, hM⟩ := on_gdE hM
              refine va_iast hx hb hK hP hD hS 2 0 rfl rfl (on_ixE g_18) dX5_join_87 (fun H locs hP hD hS => ?_)
              have hP : va_P D vwCl [(h_t, .inr (5, [.ref h_t_now, .ref h_t_images, .ref h_t_pad, .ref h_t_net, .ref h_t_second, .ref h_t_renumbering, .ref h_t_table, .ref h_t_marks])), (h_t_now, .inr (3, [.int t_now_many, .ref h_t_now_numbers])), (h_t_now_numbers, .inl (cI, 3, .inl (upd t_now_numbers (Int32.toNatClampNeg v1) q_17))), (h_t_net, .inr (0, [.int q_10.1, .ref h_t_net_rows])), (h_t_net_rows, .inl (cI, 7, .inl q_16))] H := hP
              have hD : va_D A [(h_t, .inr (5, [.ref h_t_now, .ref h_t_images, .ref h_t_pad, .ref h_t_net, .ref h_t_second, .ref h_t_renumbering, .ref h_t_table, .ref h_t_marks])), (h_t_now, .inr (3, [.int t_now_many, .ref h_t_now_numbers])), (h_t_now_numbers, .inl (cI, 3, .inl (upd t_now_numbers (Int32.toNatClampNeg v1) q_17))), (h_t_net, .inr (0, [.int q_10.1, .ref h_t_net_rows])), (h_t_net_rows, .inl (cI, 7, .inl q_16))] := hD
              refine lv_aload_n hx hb dX5_join_88 rfl (lv_at hl 0 rfl) ?_
              refine va_get (D := D) (ci := 5) (v := .ref h_t_net) (C := RX5) (T := TX5) (N := 8) hx hb hts w2 hown hK hP 0 rfl rfl 3 (by decide) w1 (fun _ h9 => h9) rfl dX5_join_89 ?_
              obtain ⟨q_19, hq_19, hM⟩ := on_bind hM
              refine on_callVN (rest := []) (As := []) (st1 := [.int q_19]) (C := RX0) (ci := 0) (q0 := 3) (wc := [(h_t_net, .inr (0, [.int q_10.1, .ref h_t_net_rows])), (h_t_net_rows, .inl (cI, 7, .inl q_16))]) (wr := [(h_t, .inr (5, [.ref h_t_now, .ref h_t_images, .ref h_t_pad, .ref h_t_net, .ref h_t_second, .ref h_t_renumbering, .ref h_t_table, .ref h_t_marks])), (h_t_now, .inr (3, [.int t_now_many, .ref h_t_now_numbers])), (h_t_now_numbers, .inl (cI, 3, .inl (upd t_now_numbers (Int32.toNatClampNeg v1) q_17)))]) (wc' := [(h_t_net, .inr (0, [.int q_10.1, .ref h_t_net_rows])), (h_t_net_rows, .inl (cI, 7, .inl q_16))]) (wf := [(h_t, .inr (5, [.ref h_t_now, .ref h_t_images, .ref h_t_pad, .ref h_t_net, .ref h_t_second, .ref h_t_renumbering, .ref h_t_table, .ref h_t_marks])), (h_t_now, .inr (3, [.int t_now_many, .ref h_t_now_numbers])), (h_t_now_numbers, .inl (cI, 3, .inl (upd t_now_numbers (Int32.toNatClampNeg v1) q_17))), (h_t_net, .inr (0, [.int q_10.1, .ref h_t_net_rows])), (h_t_net_rows, .inl (cI, 7, .inl q_16))]) (rt := (some (.int q_19))) ⟨hx, hb, hml, hown, hts⟩ (k_X0_joinedPairs h_t_net h_t_net_rows q_10.1 q_16 q_19 hq_19) ⟨va_cnB 0 hts gX5_join_X0_joinedPairs_n89 rfl rfl rfl (hN _ (List.mem_of_getElem? (i := 20) rfl)) w3 hdX0_joinedPairs ⟨(Nat.le_of_ble_eq_true rfl), (Nat.le_of_ble_eq_true rfl)⟩, w10, w11⟩ hK hN hP hD hS hA [3, 4] [0, 1, 2] [0, 1, 2, 3, 4] rfl rfl rfl rfl (by decide) rfl rfl rfl rfl rfl rfl hl.1 rfl (Nat.le_of_ble_eq_true rfl) rfl dX5_join_92 ⟨Nat.zero_le _, Nat.zero_le _⟩ (fun H locs hP hD hS => ?_)
              have hM := Option.some.inj hM
              subst hM
              rw [← hQ]
              exact on_iret hx hb hr hlk hP hD hS dX5_join_95
          · have hM := on_pos c_9 hM
            refine lv_bipush (v := -2) hx hb dX5_join_40 (by decide) ?_
            have hM := Option.some.inj hM
            subst hM
            rw [← hQ]
            exact on_iret hx hb hr hlk hP hD hS dX5_join_42
      · have hM := on_pos c_6 hM
        refine lv_iconst (v := -1) hx hb dX5_join_23 (by decide) ?_
        have hM := Option.some.inj hM
        subst hM
        rw [← hQ]
        exact on_iret hx hb hr hlk hP hD hS dX5_join_24
abbrev rm_X5_set : Room := { frames := 2, cells := 0, slots := 0, locals := 42 }
set_option maxHeartbeats 4000000 in
set_option maxRecDepth 100000 in
theorem k_X5_set {l : Launch} {D : va_G} {cI cJ cZ cS cA : ClassId} (h_t : Nat) (h_t_now : Nat) (h_t_images : Nat) (h_t_pad : Nat) (h_t_net : Nat) (h_t_second : Nat) (h_t_renumbering : Nat) (h_t_table : Nat) (h_t_marks : Nat) (h_t_now_numbers : Nat) (t_now_many : Int32) (t_now_numbers : Nat → Int32) (v1 : Int32) (v2 : Int32) (out : Int32 × (Nat → Int32)) (hM : M_X5_set v1 v2 t_now_many t_now_numbers = some out) : on_Con l yX5_set wsX5_set rm_X5_set [.ref h_t, .int v1, .int v2] D (on_T cI cJ cZ cS cA) [(h_t, .inr (5, [.ref h_t_now, .ref h_t_images, .ref h_t_pad, .ref h_t_net, .ref h_t_second, .ref h_t_renumbering, .ref h_t_table, .ref h_t_marks])), (h_t_now, .inr (3, [.int t_now_many, .ref h_t_now_numbers])), (h_t_now_numbers, .inl (cI, 3, .inl t_now_numbers))] (some (.int out.1)) [(h_t, .inr (5, [.ref h_t_now, .ref h_t_images, .ref h_t_pad, .ref h_t_net, .ref h_t_second, .ref h_t_renumbering, .ref h_t_table, .ref h_t_marks])), (h_t_now, .inr (3, [.int t_now_many, .ref h_t_now_numbers])), (h_t_now_numbers, .inl (cI, 3, .inl out.2))] := by
  unfold M_X5_set at hM
  refine on_enter (cc := cX5_set) (nL := 4) (rt := (some .int)) (own := RX5) (by decide +kernel) rfl rfl (Nat.le_of_ble_eq_true rfl) ?_
  intro p e s m below meth c A ls hx hb hml hr hlk hts hown hA hK hN H locs hP hD hS hl
  have hl : lv_has ls 4 [(0, .ref h_t), (1, .int v1), (2, .int v2)] := hl
  generalize hQ : MQ below (on_Q D (some (.int out.1)) [(h_t, .inr (5, [.ref h_t_now, .ref h_t_images, .ref h_t_pad, .ref h_t_net, .ref h_t_second, .ref h_t_renumbering, .ref h_t_table, .ref h_t_marks])), (h_t_now, .inr (3, [.int t_now_many, .ref h_t_now_numbers])), (h_t_now_numbers, .inl (cI, 3, .inl out.2))] A) _ s 0 0 A = Q
  generalize hAr : List.toArray ([.ref h_t, .int v1, .int v2] : List Value) = args at hts hQ ⊢
  have w1 := hts (.fieldLink RX5 10 "OddNets" "now" "LOddNets$Shelf;") (by decide +kernel)
  have w2 : ∀ w ∈ wsX50, w ∈ wsX5_set := by decide +kernel
  have w3 : ∀ w ∈ wsX30, w ∈ wsX5_set := by decide +kernel
  refine lv_iload_n hx hb dX5_set_0 rfl (lv_at hl 1 rfl) ?_
  obtain ⟨q_1, hq_1, hM⟩ := on_bind hM
  refine on_callS0 (rest := []) (As := [.int v1]) (st1 := [.int q_1]) ⟨hx, hb, hml, hown, hts⟩ (k_X5_isSlot v1 q_1 hq_1) (va_cwS 1 hts gX5_set_X5_isSlot rfl rfl rfl hdX5_isSlot ⟨(Nat.le_of_ble_eq_true rfl), (Nat.le_of_ble_eq_true rfl)⟩) hK hN hP hD hS hA rfl hl.1 rfl (Nat.le_of_ble_eq_true rfl) rfl dX5_set_1 ⟨Nat.zero_le _, Nat.zero_le _⟩ (fun H locs hP hS => ?_)
  refine lv_if_ne (tgt := 9) hx hb dX5_set_4 (by decide) (fun c_2 => ?_) (fun c_2 => ?_)
  · have hM := on_neg c_2 hM
    refine lv_iload_n hx hb dX5_set_9 rfl (lv_at hl 2 rfl) ?_
    refine lv_iconst (v := 0) hx hb dX5_set_10 (by decide) ?_
    refine lv_iconst (v := 1) hx hb dX5_set_11 (by decide) ?_
    refine lv_aload_n hx hb dX5_set_12 rfl (lv_at hl 0 rfl) ?_
    refine va_get (D := D) (ci := 5) (v := .ref h_t_now) (C := RX5) (T := TX5) (N := 8) hx hb hts w2 hown hK hP 0 rfl rfl 0 (by decide) w1 (fun _ h9 => h9) rfl dX5_set_13 ?_
    refine va_getN (D := D) (ci := 3) (v := .int t_now_many) (C := RX3) (T := TX3) (N := 2) hx hb hts w3 hown hK hP 1 rfl rfl 0 (by decide) (va_Nw.use rfl (hN _ (List.mem_of_getElem? (i := 0) rfl))) (fun _ h9 => h9) rfl dX5_set_16 ?_
    obtain ⟨q_3, hq_3, hM⟩ := on_bind hM
    refine on_callS0 (rest := [.int (1 : Int32), .int (0 : Int32), .int v2]) (As := [.int t_now_many]) (st1 := [.int q_3, .int (1 : Int32), .int (0 : Int32), .int v2]) ⟨hx, hb, hml, hown, hts⟩ (k_X5_pairsOf t_now_many q_3 hq_3) (va_cwS 1 hts gX5_set_X5_pairsOf rfl rfl rfl hdX5_pairsOf ⟨(Nat.le_of_ble_eq_true rfl), (Nat.le_of_ble_eq_true rfl)⟩) hK hN hP hD hS hA rfl hl.1 rfl (Nat.le_of_ble_eq_true rfl) rfl dX5_set_19 ⟨Nat.zero_le _, Nat.zero_le _⟩ (fun H locs hP hS => ?_)
    refine lv_ishl hx hb dX5_set_22 ?_
    refine lv_iconst (v := 1) hx hb dX5_set_23 (by decide) ?_
    refine lv_isub hx hb dX5_set_24 ?_
    obtain ⟨q_4, hq_4, hM⟩ := on_bind hM
    refine on_callS0 (rest := []) (As := [.int v2, .int (0 : Int32), .int (((1 : Int32) <<< (q_3 &&& 31)) - (1 : Int32))]) (st1 := [.int q_4]) ⟨hx, hb, hml, hown, hts⟩ (k_X5_within v2 (0 : Int32) (((1 : Int32) <<< (q_3 &&& 31)) - (1 : Int32)) q_4 hq_4) (va_cwS 3 hts gX5_set_X5_within rfl rfl rfl hdX5_within ⟨(Nat.le_of_ble_eq_true rfl), (Nat.le_of_ble_eq_true rfl)⟩) hK hN hP hD hS hA rfl hl.1 rfl (Nat.le_of_ble_eq_true rfl) rfl dX5_set_25 ⟨Nat.zero_le _, Nat.zero_le _⟩ (fun H locs hP hS => ?_)
    refine lv_if_ne (tgt := 34) hx hb dX5_set_28 (by decide) (fun c_5 => ?_) (fun c_5 => ?_)
    · have hM := on_neg c_5 hM
      refine lv_aload_n hx hb dX5_set_34 rfl (lv_at hl 0 rfl) ?_
      refine va_get (D := D) (ci := 5) (v := .ref h_t_now) (C := RX5) (T := TX5) (N := 8) hx hb hts w2 hown hK hP 0 rfl rfl 0 (by decide) w1 (fun _ h9 => h9) rfl dX5_set_35 ?_
      refine va_getN (D := D) (ci := 3) (v := .ref h_t_now_numbers) (C := RX3) (T := TX3) (N := 2) hx hb hts w3 hown hK hP 1 rfl rfl 1 (by decide) (va_Nw.use rfl (hN _ (List.mem_of_getElem? (i := 1) rfl))) (fun _ h9 => h9) rfl dX5_set_38 ?_
      refine lv_iload_n hx hb dX5_set_41 rfl (lv_at hl 1 rfl) ?_
      obtain ⟨g_6, hM⟩ := on_gdE hM
      refine va_iald hx hb hK hP 2 0 rfl rfl (on_ixE g_6) dX5_set_42 ?_
      refine lv_topi (fun v3_7 ev3_7 => ?_)
      have hM := on_letE ev3_7 hM
      refine lv_istore_n (lv' := [(3, .int v3_7), (0, .ref h_t), (1, .int v1), (2, .int v2)]) hx hb dX5_set_43 rfl hl (by decide) rfl (fun ls hl => ?_)
      refine lv_aload_n hx hb dX5_set_44 rfl (lv_at hl 1 rfl) ?_
      refine va_get (D := D) (ci := 5) (v := .ref h_t_now) (C := RX5) (T := TX5) (N := 8) hx hb hts w2 hown hK hP 0 rfl rfl 0 (by decide) w1 (fun _ h9 => h9) rfl dX5_set_45 ?_
      refine va_getN (D := D) (ci := 3) (v := .ref h_t_now_numbers) (C := RX3) (T := TX3) (N := 2) hx hb hts w3 hown hK hP 1 rfl rfl 1 (by decide) (va_Nw.use rfl (hN _ (List.mem_of_getElem? (i := 1) rfl))) (fun _ h9 => h9) rfl dX5_set_48 ?_
      refine lv_iload_n hx hb dX5_set_51 rfl (lv_at hl 2 rfl) ?_
      refine lv_iload_n hx hb dX5_set_52 rfl (lv_at hl 3 rfl) ?_
      obtain ⟨g_8, hM⟩ := on_gdE hM
      refine va_iast hx hb hK hP hD hS 2 0 rfl rfl (on_ixE g_8) dX5_set_53 (fun H locs hP hD hS => ?_)
      have hP : va_P D vwCl [(h_t, .inr (5, [.ref h_t_now, .ref h_t_images, .ref h_t_pad, .ref h_t_net, .ref h_t_second, .ref h_t_renumbering, .ref h_t_table, .ref h_t_marks])), (h_t_now, .inr (3, [.int t_now_many, .ref h_t_now_numbers])), (h_t_now_numbers, .inl (cI, 3, .inl (upd t_now_numbers (Int32.toNatClampNeg v1) v2)))] H := hP
      have hD : va_D A [(h_t, .inr (5, [.ref h_t_now, .ref h_t_images, .ref h_t_pad, .ref h_t_net, .ref h_t_second, .ref h_t_renumbering, .ref h_t_table, .ref h_t_marks])), (h_t_now, .inr (3, [.int t_now_many, .ref h_t_now_numbers])), (h_t_now_numbers, .inl (cI, 3, .inl (upd t_now_numbers (Int32.toNatClampNeg v1) v2)))] := hD
      refine lv_iload_n hx hb dX5_set_54 rfl (lv_at hl 0 rfl) ?_
      have hM := Option.some.inj hM
      subst hM
      rw [← hQ]
      exact on_iret hx hb hr hlk hP hD hS dX5_set_55
    · have hM := on_pos c_5 hM
      refine lv_bipush (v := -2) hx hb dX5_set_31 (by decide) ?_
      have hM := Option.some.inj hM
      subst hM
      rw [← hQ]
      exact on_iret hx hb hr hlk hP hD hS dX5_set_33
  · have hM := on_pos c_2 hM
    refine lv_iconst (v := -1) hx hb dX5_set_7 (by decide) ?_
    have hM := Option.some.inj hM
    subst hM
    rw [← hQ]
    exact on_iret hx hb hr hlk hP hD hS dX5_set_8
abbrev rm_X1_put : Room := { frames := 0, cells := 0, slots := 0, locals := 0 }
set_option maxHeartbeats 4000000 in
set_option maxRecDepth 100000 in
theorem k_X1_put {l : Launch} {D : va_G} {cI cJ cZ cS cA : ClassId} (h_t : Nat) (h_t_signs : Nat) (t_size : Int32) (t_signs : Nat → Int32) (v1 : Int32) (out : Int32 × (Nat → Int32)) (hM : M_X1_put v1 t_size t_signs = some out) : on_Con l yX1_put wsX1_put rm_X1_put [.ref h_t, .int v1] D (on_T cI cJ cZ cS cA) [(h_t, .inr (1, [.int t_size, .ref h_t_signs])), (h_t_signs, .inl (cI, 35, .inl t_signs))] none [(h_t, .inr (1, [.int out.1, .ref h_t_signs])), (h_t_signs, .inl (cI, 35, .inl out.2))] := by
  unfold M_X1_put at hM
  refine on_enter (cc := cX1_put) (nL := 2) (rt := none) (own := RX1) (by decide +kernel) rfl rfl (Nat.le_of_ble_eq_true rfl) ?_
  intro p e s m below meth c A ls hx hb hml hr hlk hts hown hA hK hN H locs hP hD hS hl
  have hl : lv_has ls 2 [(0, .ref h_t), (1, .int v1)] := hl
  generalize hQ : MQ below (on_Q D none [(h_t, .inr (1, [.int out.1, .ref h_t_signs])), (h_t_signs, .inl (cI, 35, .inl out.2))] A) _ s 0 0 A = Q
  generalize hAr : List.toArray ([.ref h_t, .int v1] : List Value) = args at hts hQ ⊢
  have w1 := hts (.fieldLink RX1 9 "OddNets$Pad" "size" "I") (by decide +kernel)
  have w2 : ∀ w ∈ wsX10, w ∈ wsX1_put := by decide +kernel
  have w3 := hts (.fieldLink RX1 15 "OddNets$Pad" "signs" "[I") (by decide +kernel)
  refine lv_aload_n hx hb dX1_put_0 rfl (lv_at hl 0 rfl) ?_
  refine va_get (D := D) (ci := 1) (v := .int t_size) (C := RX1) (T := TX1) (N := 2) hx hb hts w2 hown hK hP 0 rfl rfl 0 (by decide) w1 (fun _ h9 => h9) rfl dX1_put_1 ?_
  refine lv_bipush (v := 35) hx hb dX1_put_4 (by decide) ?_
  refine lv_icmp_ge (tgt := 29) hx hb dX1_put_6 (by decide) (fun c_1 => ?_) (fun c_1 => ?_)
  · have hM := on_pos c_1 hM
    have hM := Option.some.inj hM
    subst hM
    rw [← hQ]
    exact on_vret hx hb hr hlk hP hD hS dX1_put_29
  · have hM := on_neg c_1 hM
    refine lv_aload_n hx hb dX1_put_9 rfl (lv_at hl 0 rfl) ?_
    refine va_get (D := D) (ci := 1) (v := .ref h_t_signs) (C := RX1) (T := TX1) (N := 2) hx hb hts w2 hown hK hP 0 rfl rfl 1 (by decide) w3 (fun _ h9 => h9) rfl dX1_put_10 ?_
    refine lv_aload_n hx hb dX1_put_13 rfl (lv_at hl 0 rfl) ?_
    refine va_get (D := D) (ci := 1) (v := .int t_size) (C := RX1) (T := TX1) (N := 2) hx hb hts w2 hown hK hP 0 rfl rfl 0 (by decide) w1 (fun _ h9 => h9) rfl dX1_put_14 ?_
    refine lv_iload_n hx hb dX1_put_17 rfl (lv_at hl 1 rfl) ?_
    obtain ⟨g_2, hM⟩ := on_gdE hM
    refine va_iast hx hb hK hP hD hS 1 0 rfl rfl (on_ixE g_2) dX1_put_18 (fun H locs hP hD hS => ?_)
    have hP : va_P D vwCl [(h_t, .inr (1, [.int t_size, .ref h_t_signs])), (h_t_signs, .inl (cI, 35, .inl (upd t_signs (Int32.toNatClampNeg t_size) v1)))] H := hP
    have hD : va_D A [(h_t, .inr (1, [.int t_size, .ref h_t_signs])), (h_t_signs, .inl (cI, 35, .inl (upd t_signs (Int32.toNatClampNeg t_size) v1)))] := hD
    refine lv_aload_n hx hb dX1_put_19 rfl (lv_at hl 0 rfl) ?_
    refine lv_dup hx hb dX1_put_20 rfl ?_
    refine va_get (D := D) (ci := 1) (v := .int t_size) (C := RX1) (T := TX1) (N := 2) hx hb hts w2 hown hK hP 0 rfl rfl 0 (by decide) w1 (fun _ h9 => h9) rfl dX1_put_21 ?_
    refine lv_iconst (v := 1) hx hb dX1_put_24 (by decide) ?_
    refine lv_iadd hx hb dX1_put_25 ?_
    refine lv_topi (fun t_size_3 et_size_3 => ?_)
    have hM := on_letE et_size_3 hM
    refine va_put (D := D) (ci := 1) (v := .int t_size_3) (ty := .int) (C := RX1) (T := TX1) (N := 2) hx hb hts w2 tyX1 tyX1_ok nmX1 hown hK hP hD hS 0 rfl rfl 0 (by decide) w1 (fun _ h9 => h9) rfl (by decide +kernel) rfl rfl (Nat.le_of_ble_eq_true rfl) dX1_put_26 (fun H locs hP hD hS => ?_)
    have hP : va_P D vwCl [(h_t, .inr (1, [.int t_size_3, .ref h_t_signs])), (h_t_signs, .inl (cI, 35, .inl (upd t_signs (Int32.toNatClampNeg t_size) v1)))] H := hP
    have hD : va_D A [(h_t, .inr (1, [.int t_size_3, .ref h_t_signs])), (h_t_signs, .inl (cI, 35, .inl (upd t_signs (Int32.toNatClampNeg t_size) v1)))] := hD
    have hM := Option.some.inj hM
    subst hM
    rw [← hQ]
    exact on_vret hx hb hr hlk hP hD hS dX1_put_29
abbrev rm_X5_say : Room := { frames := 1, cells := 0, slots := 0, locals := 22 }
set_option maxHeartbeats 4000000 in
set_option maxRecDepth 100000 in
theorem k_X5_say {l : Launch} {D : va_G} {cI cJ cZ cS cA : ClassId} (h_t : Nat) (h_t_now : Nat) (h_t_images : Nat) (h_t_pad : Nat) (h_t_net : Nat) (h_t_second : Nat) (h_t_renumbering : Nat) (h_t_table : Nat) (h_t_marks : Nat) (h_t_pad_signs : Nat) (t_pad_size : Int32) (t_pad_signs : Nat → Int32) (v1 : Int32) (out : Int32 × Int32 × (Nat → Int32)) (hM : M_X5_say v1 t_pad_size t_pad_signs = some out) : on_Con l yX5_say wsX5_say rm_X5_say [.ref h_t, .int v1] D (on_T cI cJ cZ cS cA) [(h_t, .inr (5, [.ref h_t_now, .ref h_t_images, .ref h_t_pad, .ref h_t_net, .ref h_t_second, .ref h_t_renumbering, .ref h_t_table, .ref h_t_marks])), (h_t_pad, .inr (1, [.int t_pad_size, .ref h_t_pad_signs])), (h_t_pad_signs, .inl (cI, 35, .inl t_pad_signs))] (some (.int out.1)) [(h_t, .inr (5, [.ref h_t_now, .ref h_t_images, .ref h_t_pad, .ref h_t_net, .ref h_t_second, .ref h_t_renumbering, .ref h_t_table, .ref h_t_marks])), (h_t_pad, .inr (1, [.int out.2.1, .ref h_t_pad_signs])), (h_t_pad_signs, .inl (cI, 35, .inl out.2.2))] := by
  unfold M_X5_say at hM
  refine on_enter (cc := cX5_say) (nL := 2) (rt := (some .int)) (own := RX5) (by decide +kernel) rfl rfl (Nat.le_of_ble_eq_true rfl) ?_
  intro p e s m below meth c A ls hx hb hml hr hlk hts hown hA hK hN H locs hP hD hS hl
  have hl : lv_has ls 2 [(0, .ref h_t), (1, .int v1)] := hl
  generalize hQ : MQ below (on_Q D (some (.int out.1)) [(h_t, .inr (5, [.ref h_t_now, .ref h_t_images, .ref h_t_pad, .ref h_t_net, .ref h_t_second, .ref h_t_renumbering, .ref h_t_table, .ref h_t_marks])), (h_t_pad, .inr (1, [.int out.2.1, .ref h_t_pad_signs])), (h_t_pad_signs, .inl (cI, 35, .inl out.2.2))] A) _ s 0 0 A = Q
  generalize hAr : List.toArray ([.ref h_t, .int v1] : List Value) = args at hts hQ ⊢
  have w1 := hts (.fieldLink RX5 23 "OddNets" "pad" "LOddNets$Pad;") (by decide +kernel)
  have w2 : ∀ w ∈ wsX50, w ∈ wsX5_say := by decide +kernel
  have w3 : ∀ w ∈ wsX10, w ∈ wsX5_say := by decide +kernel
  have w4 := hts (.initialized RX1) (by decide +kernel)
  have w5 := hts (.instanceMethod yX1_put) (by decide +kernel)
  have w6 := hts (.selects RX1 yX1_put yX1_put) (by decide +kernel)
  refine lv_iload_n hx hb dX5_say_0 rfl (lv_at hl 1 rfl) ?_
  refine lv_bipush (v := 33) hx hb dX5_say_1 (by decide) ?_
  refine lv_bipush (v := 126) hx hb dX5_say_3 (by decide) ?_
  obtain ⟨q_1, hq_1, hM⟩ := on_bind hM
  refine on_callS0 (rest := []) (As := [.int v1, .int (33 : Int32), .int (126 : Int32)]) (st1 := [.int q_1]) ⟨hx, hb, hml, hown, hts⟩ (k_X5_within v1 (33 : Int32) (126 : Int32) q_1 hq_1) (va_cwS 3 hts gX5_say_X5_within rfl rfl rfl hdX5_within ⟨(Nat.le_of_ble_eq_true rfl), (Nat.le_of_ble_eq_true rfl)⟩) hK hN hP hD hS hA rfl hl.1 rfl (Nat.le_of_ble_eq_true rfl) rfl dX5_say_5 ⟨Nat.zero_le _, Nat.zero_le _⟩ (fun H locs hP hS => ?_)
  refine lv_if_ne (tgt := 14) hx hb dX5_say_8 (by decide) (fun c_2 => ?_) (fun c_2 => ?_)
  · have hM := on_neg c_2 hM
    refine lv_aload_n hx hb dX5_say_14 rfl (lv_at hl 0 rfl) ?_
    refine va_get (D := D) (ci := 5) (v := .ref h_t_pad) (C := RX5) (T := TX5) (N := 8) hx hb hts w2 hown hK hP 0 rfl rfl 2 (by decide) w1 (fun _ h9 => h9) rfl dX5_say_15 ?_
    refine va_getN (D := D) (ci := 1) (v := .int t_pad_size) (C := RX1) (T := TX1) (N := 2) hx hb hts w3 hown hK hP 1 rfl rfl 0 (by decide) (va_Nw.use rfl (hN _ (List.mem_of_getElem? (i := 2) rfl))) (fun _ h9 => h9) rfl dX5_say_18 ?_
    refine lv_bipush (v := 35) hx hb dX5_say_21 (by decide) ?_
    refine lv_icmp_lt (tgt := 29) hx hb dX5_say_23 (by decide) (fun c_3 => ?_) (fun c_3 => ?_)
    · have hM := on_pos c_3 hM
      refine lv_aload_n hx hb dX5_say_29 rfl (lv_at hl 0 rfl) ?_
      refine va_get (D := D) (ci := 5) (v := .ref h_t_pad) (C := RX5) (T := TX5) (N := 8) hx hb hts w2 hown hK hP 0 rfl rfl 2 (by decide) w1 (fun _ h9 => h9) rfl dX5_say_30 ?_
      refine lv_iload_n hx hb dX5_say_33 rfl (lv_at hl 1 rfl) ?_
      obtain ⟨q_4, hq_4, hM⟩ := on_bind hM
      refine on_callVN (rest := []) (As := [.int v1]) (st1 := []) (C := RX1) (ci := 1) (q0 := 1) (wc := [(h_t_pad, .inr (1, [.int t_pad_size, .ref h_t_pad_signs])), (h_t_pad_signs, .inl (cI, 35, .inl t_pad_signs))]) (wr := [(h_t, .inr (5, [.ref h_t_now, .ref h_t_images, .ref h_t_pad, .ref h_t_net, .ref h_t_second, .ref h_t_renumbering, .ref h_t_table, .ref h_t_marks]))]) (wc' := [(h_t_pad, .inr (1, [.int q_4.1, .ref h_t_pad_signs])), (h_t_pad_signs, .inl (cI, 35, .inl q_4.2))]) (wf := [(h_t, .inr (5, [.ref h_t_now, .ref h_t_images, .ref h_t_pad, .ref h_t_net, .ref h_t_second, .ref h_t_renumbering, .ref h_t_table, .ref h_t_marks])), (h_t_pad, .inr (1, [.int q_4.1, .ref h_t_pad_signs])), (h_t_pad_signs, .inl (cI, 35, .inl q_4.2))]) (rt := none) ⟨hx, hb, hml, hown, hts⟩ (k_X1_put h_t_pad h_t_pad_signs t_pad_size t_pad_signs v1 q_4 hq_4) ⟨va_cnB 1 hts gX5_say_X1_put_n99 rfl rfl rfl (hN _ (List.mem_of_getElem? (i := 21) rfl)) w4 hdX1_put ⟨(Nat.le_of_ble_eq_true rfl), (Nat.le_of_ble_eq_true rfl)⟩, w5, w6⟩ hK hN hP hD hS hA [1, 2] [0] [0, 1, 2] rfl rfl rfl rfl (by decide) rfl rfl rfl rfl rfl rfl hl.1 rfl (Nat.le_of_ble_eq_true rfl) rfl dX5_say_34 ⟨Nat.zero_le _, Nat.zero_le _⟩ (fun H locs hP hD hS => ?_)
      refine lv_aload_n hx hb dX5_say_37 rfl (lv_at hl 0 rfl) ?_
      refine va_get (D := D) (ci := 5) (v := .ref h_t_pad) (C := RX5) (T := TX5) (N := 8) hx hb hts w2 hown hK hP 0 rfl rfl 2 (by decide) w1 (fun _ h9 => h9) rfl dX5_say_38 ?_
      refine va_getN (D := D) (ci := 1) (v := .int q_4.1) (C := RX1) (T := TX1) (N := 2) hx hb hts w3 hown hK hP 1 rfl rfl 0 (by decide) (va_Nw.use rfl (hN _ (List.mem_of_getElem? (i := 2) rfl))) (fun _ h9 => h9) rfl dX5_say_41 ?_
      have hM := Option.some.inj hM
      subst hM
      rw [← hQ]
      exact on_iret hx hb hr hlk hP hD hS dX5_say_44
    · have hM := on_neg c_3 hM
      refine lv_bipush (v := -4) hx hb dX5_say_26 (by decide) ?_
      have hM := Option.some.inj hM
      subst hM
      rw [← hQ]
      exact on_iret hx hb hr hlk hP hD hS dX5_say_28
  · have hM := on_pos c_2 hM
    refine lv_bipush (v := -2) hx hb dX5_say_11 (by decide) ?_
    have hM := Option.some.inj hM
    subst hM
    rw [← hQ]
    exact on_iret hx hb hr hlk hP hD hS dX5_say_13
abbrev rm_X5_wipe : Room := { frames := 0, cells := 0, slots := 0, locals := 0 }
set_option maxHeartbeats 4000000 in
set_option maxRecDepth 100000 in
theorem k_X5_wipe {l : Launch} {D : va_G} {cI cJ cZ cS cA : ClassId} (h_t : Nat) (h_t_now : Nat) (h_t_images : Nat) (h_t_pad : Nat) (h_t_net : Nat) (h_t_second : Nat) (h_t_renumbering : Nat) (h_t_table : Nat) (h_t_marks : Nat) (h_t_pad_signs : Nat) (t_pad_size : Int32)  (out : Int32 × Int32) (hM : M_X5_wipe t_pad_size = some out) : on_Con l yX5_wipe wsX5_wipe rm_X5_wipe [.ref h_t] D (on_T cI cJ cZ cS cA) [(h_t, .inr (5, [.ref h_t_now, .ref h_t_images, .ref h_t_pad, .ref h_t_net, .ref h_t_second, .ref h_t_renumbering, .ref h_t_table, .ref h_t_marks])), (h_t_pad, .inr (1, [.int t_pad_size, .ref h_t_pad_signs]))] (some (.int out.1)) [(h_t, .inr (5, [.ref h_t_now, .ref h_t_images, .ref h_t_pad, .ref h_t_net, .ref h_t_second, .ref h_t_renumbering, .ref h_t_table, .ref h_t_marks])), (h_t_pad, .inr (1, [.int out.2, .ref h_t_pad_signs]))] := by
  unfold M_X5_wipe at hM
  refine on_enter (cc := cX5_wipe) (nL := 2) (rt := (some .int)) (own := RX5) (by decide +kernel) rfl rfl (Nat.le_of_ble_eq_true rfl) ?_
  intro p e s m below meth c A ls hx hb hml hr hlk hts hown hA hK hN H locs hP hD hS hl
  have hl : lv_has ls 2 [(0, .ref h_t)] := hl
  generalize hQ : MQ below (on_Q D (some (.int out.1)) [(h_t, .inr (5, [.ref h_t_now, .ref h_t_images, .ref h_t_pad, .ref h_t_net, .ref h_t_second, .ref h_t_renumbering, .ref h_t_table, .ref h_t_marks])), (h_t_pad, .inr (1, [.int out.2, .ref h_t_pad_signs]))] A) _ s 0 0 A = Q
  generalize hAr : List.toArray ([.ref h_t] : List Value) = args at hts hQ ⊢
  have w1 := hts (.fieldLink RX5 23 "OddNets" "pad" "LOddNets$Pad;") (by decide +kernel)
  have w2 : ∀ w ∈ wsX50, w ∈ wsX5_wipe := by decide +kernel
  have w3 : ∀ w ∈ wsX10, w ∈ wsX5_wipe := by decide +kernel
  refine lv_aload_n hx hb dX5_wipe_0 rfl (lv_at hl 0 rfl) ?_
  refine va_get (D := D) (ci := 5) (v := .ref h_t_pad) (C := RX5) (T := TX5) (N := 8) hx hb hts w2 hown hK hP 0 rfl rfl 2 (by decide) w1 (fun _ h9 => h9) rfl dX5_wipe_1 ?_
  refine va_getN (D := D) (ci := 1) (v := .int t_pad_size) (C := RX1) (T := TX1) (N := 2) hx hb hts w3 hown hK hP 1 rfl rfl 0 (by decide) (va_Nw.use rfl (hN _ (List.mem_of_getElem? (i := 2) rfl))) (fun _ h9 => h9) rfl dX5_wipe_4 ?_
  refine lv_istore_n (lv' := [(1, .int t_pad_size), (0, .ref h_t)]) hx hb dX5_wipe_7 rfl hl (by decide) rfl (fun ls hl => ?_)
  refine lv_aload_n hx hb dX5_wipe_8 rfl (lv_at hl 1 rfl) ?_
  refine va_get (D := D) (ci := 5) (v := .ref h_t_pad) (C := RX5) (T := TX5) (N := 8) hx hb hts w2 hown hK hP 0 rfl rfl 2 (by decide) w1 (fun _ h9 => h9) rfl dX5_wipe_9 ?_
  refine lv_iconst (v := 0) hx hb dX5_wipe_12 (by decide) ?_
  refine va_putN (D := D) (ci := 1) (v := .int (0 : Int32)) (ty := .int) (C := RX1) (T := TX1) (N := 2) hx hb hts w3 tyX1 tyX1_ok nmX1 hown hK hP hD hS 1 rfl rfl 0 (by decide) (va_Nw.use rfl (hN _ (List.mem_of_getElem? (i := 2) rfl))) (fun _ h9 => h9) rfl (by decide +kernel) rfl rfl (Nat.le_of_ble_eq_true rfl) dX5_wipe_13 (fun H locs hP hD hS => ?_)
  have hP : va_P D vwCl [(h_t, .inr (5, [.ref h_t_now, .ref h_t_images, .ref h_t_pad, .ref h_t_net, .ref h_t_second, .ref h_t_renumbering, .ref h_t_table, .ref h_t_marks])), (h_t_pad, .inr (1, [.int (0 : Int32), .ref h_t_pad_signs]))] H := hP
  have hD : va_D A [(h_t, .inr (5, [.ref h_t_now, .ref h_t_images, .ref h_t_pad, .ref h_t_net, .ref h_t_second, .ref h_t_renumbering, .ref h_t_table, .ref h_t_marks])), (h_t_pad, .inr (1, [.int (0 : Int32), .ref h_t_pad_signs]))] := hD
  refine lv_iload_n hx hb dX5_wipe_16 rfl (lv_at hl 0 rfl) ?_
  have hM := Option.some.inj hM
  subst hM
  rw [← hQ]
  exact on_iret hx hb hr hlk hP hD hS dX5_wipe_17
abbrev rm_X5_triplesOf : Room := { frames := 0, cells := 0, slots := 0, locals := 0 }
set_option maxHeartbeats 4000000 in
set_option maxRecDepth 100000 in
theorem k_X5_triplesOf {l : Launch} {D : va_G} {cI cJ cZ cS cA : ClassId}   (v0 : Int32) (out : Int32) (hM : M_X5_triplesOf v0 = some out) : on_Con l yX5_triplesOf wsX5_triplesOf rm_X5_triplesOf [.int v0] D (on_T cI cJ cZ cS cA) [] (some (.int out)) [] := by
  unfold M_X5_triplesOf at hM
  refine on_enter (cc := cX5_triplesOf) (nL := 1) (rt := (some .int)) (own := RX5) (by decide +kernel) rfl rfl (Nat.le_of_ble_eq_true rfl) ?_
  intro p e s m below meth c A ls hx hb hml hr hlk hts hown hA hK hN H locs hP hD hS hl
  have hl : lv_has ls 1 [(0, .int v0)] := hl
  generalize hQ : MQ below (on_Q D (some (.int out)) [] A) _ s 0 0 A = Q
  generalize hAr : List.toArray ([.int v0] : List Value) = args at hts hQ ⊢
  refine lv_iload_n hx hb dX5_triplesOf_0 rfl (lv_at hl 0 rfl) ?_
  refine lv_iload_n hx hb dX5_triplesOf_1 rfl (lv_at hl 0 rfl) ?_
  refine lv_iconst (v := 1) hx hb dX5_triplesOf_2 (by decide) ?_
  refine lv_isub hx hb dX5_triplesOf_3 ?_
  refine lv_imul hx hb dX5_triplesOf_4 ?_
  refine lv_iload_n hx hb dX5_triplesOf_5 rfl (lv_at hl 0 rfl) ?_
  refine lv_iconst (v := 2) hx hb dX5_triplesOf_6 (by decide) ?_
  refine lv_isub hx hb dX5_triplesOf_7 ?_
  refine lv_imul hx hb dX5_triplesOf_8 ?_
  refine lv_bipush (v := 6) hx hb dX5_triplesOf_9 (by decide) ?_
  refine lv_idiv hx hb dX5_triplesOf_11 (by decide) ?_
  have hM := Option.some.inj hM
  subst hM
  rw [← hQ]
  exact on_iret hx hb hr hlk hP hD hS dX5_triplesOf_12
abbrev rm_X5_signsFor : Room := { frames := 1, cells := 0, slots := 0, locals := 20 }
set_option maxHeartbeats 4000000 in
set_option maxRecDepth 100000 in
theorem k_X5_signsFor {l : Launch} {D : va_G} {cI cJ cZ cS cA : ClassId} (h_t : Nat) (h_t_now : Nat) (h_t_images : Nat) (h_t_pad : Nat) (h_t_net : Nat) (h_t_second : Nat) (h_t_renumbering : Nat) (h_t_table : Nat) (h_t_marks : Nat) (h_t_now_numbers : Nat) (t_now_many : Int32) (v1 : Int32) (out : Int32) (hM : M_X5_signsFor v1 t_now_many = some out) : on_Con l yX5_signsFor wsX5_signsFor rm_X5_signsFor [.ref h_t, .int v1] D (on_T cI cJ cZ cS cA) [(h_t, .inr (5, [.ref h_t_now, .ref h_t_images, .ref h_t_pad, .ref h_t_net, .ref h_t_second, .ref h_t_renumbering, .ref h_t_table, .ref h_t_marks])), (h_t_now, .inr (3, [.int t_now_many, .ref h_t_now_numbers]))] (some (.int out)) [(h_t, .inr (5, [.ref h_t_now, .ref h_t_images, .ref h_t_pad, .ref h_t_net, .ref h_t_second, .ref h_t_renumbering, .ref h_t_table, .ref h_t_marks])), (h_t_now, .inr (3, [.int t_now_many, .ref h_t_now_numbers]))] := by
  unfold M_X5_signsFor at hM
  refine on_enter (cc := cX5_signsFor) (nL := 2) (rt := (some .int)) (own := RX5) (by decide +kernel) rfl rfl (Nat.le_of_ble_eq_true rfl) ?_
  intro p e s m below meth c A ls hx hb hml hr hlk hts hown hA hK hN H locs hP hD hS hl
  have hl : lv_has ls 2 [(0, .ref h_t), (1, .int v1)] := hl
  generalize hQ : MQ below (on_Q D (some (.int out)) [(h_t, .inr (5, [.ref h_t_now, .ref h_t_images, .ref h_t_pad, .ref h_t_net, .ref h_t_second, .ref h_t_renumbering, .ref h_t_table, .ref h_t_marks])), (h_t_now, .inr (3, [.int t_now_many, .ref h_t_now_numbers]))] A) _ s 0 0 A = Q
  generalize hAr : List.toArray ([.ref h_t, .int v1] : List Value) = args at hts hQ ⊢
  have w1 := hts (.fieldLink RX5 10 "OddNets" "now" "LOddNets$Shelf;") (by decide +kernel)
  have w2 : ∀ w ∈ wsX50, w ∈ wsX5_signsFor := by decide +kernel
  have w3 : ∀ w ∈ wsX30, w ∈ wsX5_signsFor := by decide +kernel
  refine lv_iload_n hx hb dX5_signsFor_0 rfl (lv_at hl 1 rfl) ?_
  refine lv_if_ne (tgt := 17) hx hb dX5_signsFor_1 (by decide) (fun c_1 => ?_) (fun c_1 => ?_)
  · have hM := on_neg c_1 hM
    refine lv_aload_n hx hb dX5_signsFor_17 rfl (lv_at hl 0 rfl) ?_
    refine va_get (D := D) (ci := 5) (v := .ref h_t_now) (C := RX5) (T := TX5) (N := 8) hx hb hts w2 hown hK hP 0 rfl rfl 0 (by decide) w1 (fun _ h9 => h9) rfl dX5_signsFor_18 ?_
    refine va_getN (D := D) (ci := 3) (v := .int t_now_many) (C := RX3) (T := TX3) (N := 2) hx hb hts w3 hown hK hP 1 rfl rfl 0 (by decide) (va_Nw.use rfl (hN _ (List.mem_of_getElem? (i := 0) rfl))) (fun _ h9 => h9) rfl dX5_signsFor_21 ?_
    obtain ⟨q_2, hq_2, hM⟩ := on_bind hM
    refine on_callS0 (rest := []) (As := [.int t_now_many]) (st1 := [.int q_2]) ⟨hx, hb, hml, hown, hts⟩ (k_X5_triplesOf t_now_many q_2 hq_2) (va_cwS 1 hts gX5_signsFor_X5_triplesOf rfl rfl rfl hdX5_triplesOf ⟨(Nat.le_of_ble_eq_true rfl), (Nat.le_of_ble_eq_true rfl)⟩) hK hN hP hD hS hA rfl hl.1 rfl (Nat.le_of_ble_eq_true rfl) rfl dX5_signsFor_24 ⟨Nat.zero_le _, Nat.zero_le _⟩ (fun H locs hP hS => ?_)
    have hM := Option.some.inj hM
    subst hM
    rw [← hQ]
    exact on_iret hx hb hr hlk hP hD hS dX5_signsFor_27
  · have hM := on_pos c_1 hM
    refine lv_aload_n hx hb dX5_signsFor_4 rfl (lv_at hl 0 rfl) ?_
    refine va_get (D := D) (ci := 5) (v := .ref h_t_now) (C := RX5) (T := TX5) (N := 8) hx hb hts w2 hown hK hP 0 rfl rfl 0 (by decide) w1 (fun _ h9 => h9) rfl dX5_signsFor_5 ?_
    refine va_getN (D := D) (ci := 3) (v := .int t_now_many) (C := RX3) (T := TX3) (N := 2) hx hb hts w3 hown hK hP 1 rfl rfl 0 (by decide) (va_Nw.use rfl (hN _ (List.mem_of_getElem? (i := 0) rfl))) (fun _ h9 => h9) rfl dX5_signsFor_8 ?_
    obtain ⟨q_3, hq_3, hM⟩ := on_bind hM
    refine on_callS0 (rest := []) (As := [.int t_now_many]) (st1 := [.int q_3]) ⟨hx, hb, hml, hown, hts⟩ (k_X5_pairsOf t_now_many q_3 hq_3) (va_cwS 1 hts gX5_signsFor_X5_pairsOf rfl rfl rfl hdX5_pairsOf ⟨(Nat.le_of_ble_eq_true rfl), (Nat.le_of_ble_eq_true rfl)⟩) hK hN hP hD hS hA rfl hl.1 rfl (Nat.le_of_ble_eq_true rfl) rfl dX5_signsFor_11 ⟨Nat.zero_le _, Nat.zero_le _⟩ (fun H locs hP hS => ?_)
    refine lv_goto (tgt := 27) hx hb dX5_signsFor_14 (by decide) ?_
    have hM := Option.some.inj hM
    subst hM
    rw [← hQ]
    exact on_iret hx hb hr hlk hP hD hS dX5_signsFor_27
abbrev rm_X1_faultFor : Room := { frames := 0, cells := 0, slots := 0, locals := 0 }
set_option maxHeartbeats 4000000 in
set_option maxRecDepth 100000 in
theorem k_X1_faultFor {l : Launch} {D : va_G} {cI cJ cZ cS cA : ClassId} (h_t : Nat) (h_t_signs : Nat) (t_size : Int32) (t_signs : Nat → Int32) (v1 : Int32) (out : Int32) (hM : M_X1_faultFor v1 t_size t_signs = some out) : on_Con l yX1_faultFor wsX1_faultFor rm_X1_faultFor [.ref h_t, .int v1] D (on_T cI cJ cZ cS cA) [(h_t, .inr (1, [.int t_size, .ref h_t_signs])), (h_t_signs, .inl (cI, 35, .inl t_signs))] (some (.int out)) [(h_t, .inr (1, [.int t_size, .ref h_t_signs])), (h_t_signs, .inl (cI, 35, .inl t_signs))] := by
  unfold M_X1_faultFor at hM
  refine on_enter (cc := cX1_faultFor) (nL := 3) (rt := (some .int)) (own := RX1) (by decide +kernel) rfl rfl (Nat.le_of_ble_eq_true rfl) ?_
  intro p e s m below meth c A ls hx hb hml hr hlk hts hown hA hK hN H locs hP hD hS hl
  have hl : lv_has ls 3 [(0, .ref h_t), (1, .int v1)] := hl
  generalize hQ : MQ below (on_Q D (some (.int out)) [(h_t, .inr (1, [.int t_size, .ref h_t_signs])), (h_t_signs, .inl (cI, 35, .inl t_signs))] A) _ s 0 0 A = Q
  generalize hAr : List.toArray ([.ref h_t, .int v1] : List Value) = args at hts hQ ⊢
  have w1 := hts (.fieldLink RX1 9 "OddNets$Pad" "size" "I") (by decide +kernel)
  have w2 : ∀ w ∈ wsX10, w ∈ wsX1_faultFor := by decide +kernel
  have w3 := hts (.fieldLink RX1 15 "OddNets$Pad" "signs" "[I") (by decide +kernel)
  have lp_2 : ∀ (v1 : Int32), ∀ (n : Nat) (v2 : Int32) (x : Int32 ⊕ Unit), on_loop (fun (s : Int32) => B_X1_faultFor_2 v1 t_size t_signs s) n v2 = some x → (∀ u, x = Sum.inr u → ∀ (H : Heap) (locs : List Loc), va_P D vwCl [(h_t, .inr (1, [.int t_size, .ref h_t_signs])), (h_t_signs, .inl (cI, 35, .inl t_signs))] H → va_D A [(h_t, .inr (1, [.int t_size, .ref h_t_signs])), (h_t_signs, .inl (cI, 35, .inl t_signs))] → va_S A s.heap H locs → ∀ ls : Array Slot, lv_has ls 3 [(0, .ref h_t), (1, .int v1)] → W p l e rm_X1_faultFor s m args below meth c H locs 0 0 Q (F0 m 45 ls [])) → (∀ o, x = Sum.inl o → o = out) → ∀ (H : Heap) (locs : List Loc), va_P D vwCl [(h_t, .inr (1, [.int t_size, .ref h_t_signs])), (h_t_signs, .inl (cI, 35, .inl t_signs))] H → va_D A [(h_t, .inr (1, [.int t_size, .ref h_t_signs])), (h_t_signs, .inl (cI, 35, .inl t_signs))] → va_S A s.heap H locs → ∀ ls : Array Slot, lv_has ls 3 [(0, .ref h_t), (1, .int v1), (2, .int v2)] → W p l e rm_X1_faultFor s m args below meth c H locs 0 0 Q (F0 m 2 ls []) := by
    intro v1
    intro n
    induction n with
    | zero =>
      intro v2 x hL
      exact (on_loop0 hL).elim
    | succ n ih =>
      intro v2 x hL K1 K2 H locs hP hD hS ls hl
      obtain ⟨y, hM, hk⟩ := on_loopE hL
      have hM : B_X1_faultFor_2 v1 t_size t_signs v2 = some y := hM
      unfold B_X1_faultFor_2 at hM
      refine lv_iload_n hx hb dX1_faultFor_2 rfl (lv_at hl 2 rfl) ?_
      refine lv_aload_n hx hb dX1_faultFor_3 rfl (lv_at hl 0 rfl) ?_
      refine va_get (D := D) (ci := 1) (v := .int t_size) (C := RX1) (T := TX1) (N := 2) hx hb hts w2 hown hK hP 0 rfl rfl 0 (by decide) w1 (fun _ h9 => h9) rfl dX1_faultFor_4 ?_
      refine lv_icmp_ge (tgt := 45) hx hb dX1_faultFor_7 (by decide) (fun c_1 => ?_) (fun c_1 => ?_)
      · have hM := on_pos c_1 hM
        have hk := on_nxR hM hk
        subst hk
        exact K1 _ rfl _ _ hP hD hS ls (lv_sub hl [0, 1] rfl)
      · have hM := on_neg c_1 hM
        refine lv_iload_n hx hb dX1_faultFor_10 rfl (lv_at hl 2 rfl) ?_
        refine lv_iload_n hx hb dX1_faultFor_11 rfl (lv_at hl 1 rfl) ?_
        refine lv_icmp_ge (tgt := 37) hx hb dX1_faultFor_12 (by decide) (fun c_2 => ?_) (fun c_2 => ?_)
        · have hM := on_pos c_2 hM
          refine lv_iload_n hx hb dX1_faultFor_37 rfl (lv_at hl 2 rfl) ?_
          have hk := on_nxR hM hk
          subst hk
          have ho := K2 _ rfl
          subst ho
          rw [← hQ]
          exact on_iret hx hb hr hlk hP hD hS dX1_faultFor_38
        · have hM := on_neg c_2 hM
          refine lv_aload_n hx hb dX1_faultFor_15 rfl (lv_at hl 0 rfl) ?_
          refine va_get (D := D) (ci := 1) (v := .ref h_t_signs) (C := RX1) (T := TX1) (N := 2) hx hb hts w2 hown hK hP 0 rfl rfl 1 (by decide) w3 (fun _ h9 => h9) rfl dX1_faultFor_16 ?_
          refine lv_iload_n hx hb dX1_faultFor_19 rfl (lv_at hl 2 rfl) ?_
          obtain ⟨g_3, hM⟩ := on_gdE hM
          refine va_iald hx hb hK hP 1 0 rfl rfl (on_ixE g_3) dX1_faultFor_20 ?_
          refine lv_bipush (v := 48) hx hb dX1_faultFor_21 (by decide) ?_
          refine lv_icmp_eq (tgt := 39) hx hb dX1_faultFor_23 (by decide) (fun c_4 => ?_) (fun c_4 => ?_)
          · have hM := on_pos c_4 hM
            obtain ⟨v2_5, ev2_5⟩ : ∃ z : Int32, z = v2 + 1 := ⟨_, rfl⟩
            have hM := on_letE ev2_5 hM
            refine lv_iinc (v := v2_5) (lv' := [(2, .int v2_5), (0, .ref h_t), (1, .int v1)]) hx hb dX1_faultFor_39 hl (k := 2) rfl (by rw [ev2_5]; rfl) (by decide) rfl (fun ls hl => ?_)
            refine lv_goto (tgt := 2) hx hb dX1_faultFor_42 (by decide) ?_
            have hk := on_nxL hM hk
            exact ih v2_5 _ hk K1 K2 _ _ hP hD hS ls (lv_sub hl [1, 2, 0] rfl)
          · have hM := on_neg c_4 hM
            refine lv_aload_n hx hb dX1_faultFor_26 rfl (lv_at hl 0 rfl) ?_
            refine va_get (D := D) (ci := 1) (v := .ref h_t_signs) (C := RX1) (T := TX1) (N := 2) hx hb hts w2 hown hK hP 0 rfl rfl 1 (by decide) w3 (fun _ h9 => h9) rfl dX1_faultFor_27 ?_
            refine lv_iload_n hx hb dX1_faultFor_30 rfl (lv_at hl 2 rfl) ?_
            obtain ⟨g_6, hM⟩ := on_gdE hM
            refine va_iald hx hb hK hP 1 0 rfl rfl (on_ixE g_6) dX1_faultFor_31 ?_
            refine lv_bipush (v := 49) hx hb dX1_faultFor_32 (by decide) ?_
            refine lv_icmp_eq (tgt := 39) hx hb dX1_faultFor_34 (by decide) (fun c_7 => ?_) (fun c_7 => ?_)
            · have hM := on_pos c_7 hM
              obtain ⟨v2_8, ev2_8⟩ : ∃ z : Int32, z = v2 + 1 := ⟨_, rfl⟩
              have hM := on_letE ev2_8 hM
              refine lv_iinc (v := v2_8) (lv' := [(2, .int v2_8), (0, .ref h_t), (1, .int v1)]) hx hb dX1_faultFor_39 hl (k := 2) rfl (by rw [ev2_8]; rfl) (by decide) rfl (fun ls hl => ?_)
              refine lv_goto (tgt := 2) hx hb dX1_faultFor_42 (by decide) ?_
              have hk := on_nxL hM hk
              exact ih v2_8 _ hk K1 K2 _ _ hP hD hS ls (lv_sub hl [1, 2, 0] rfl)
            · have hM := on_neg c_7 hM
              refine lv_iload_n hx hb dX1_faultFor_37 rfl (lv_at hl 2 rfl) ?_
              have hk := on_nxR hM hk
              subst hk
              have ho := K2 _ rfl
              subst ho
              rw [← hQ]
              exact on_iret hx hb hr hlk hP hD hS dX1_faultFor_38
  refine lv_iconst (v := 0) hx hb dX1_faultFor_0 (by decide) ?_
  refine lv_istore_n (lv' := [(2, .int (0 : Int32)), (0, .ref h_t), (1, .int v1)]) hx hb dX1_faultFor_1 rfl hl (by decide) rfl (fun ls hl => ?_)
  obtain ⟨q_9, hq_9, hM⟩ := on_bind hM
  refine lp_2 v1 on_F (0 : Int32) q_9 hq_9 (fun u_10 hv H locs hP hD hS ls hl => ?_) (fun o ho => ?_) H locs hP hD hS ls (lv_sub hl [1, 2, 0] rfl)
  · subst hv
    have hM := on_elR hM
    refine lv_aload_n hx hb dX1_faultFor_45 rfl (lv_at hl 0 rfl) ?_
    refine va_get (D := D) (ci := 1) (v := .int t_size) (C := RX1) (T := TX1) (N := 2) hx hb hts w2 hown hK hP 0 rfl rfl 0 (by decide) w1 (fun _ h9 => h9) rfl dX1_faultFor_46 ?_
    refine lv_iload_n hx hb dX1_faultFor_49 rfl (lv_at hl 1 rfl) ?_
    refine lv_icmp_ge (tgt := 60) hx hb dX1_faultFor_50 (by decide) (fun c_11 => ?_) (fun c_11 => ?_)
    · have hM := on_pos c_11 hM
      refine lv_bipush (v := -6) hx hb dX1_faultFor_60 (by decide) ?_
      have hM := Option.some.inj hM
      subst hM
      rw [← hQ]
      exact on_iret hx hb hr hlk hP hD hS dX1_faultFor_62
    · have hM := on_neg c_11 hM
      refine lv_aload_n hx hb dX1_faultFor_53 rfl (lv_at hl 0 rfl) ?_
      refine va_get (D := D) (ci := 1) (v := .int t_size) (C := RX1) (T := TX1) (N := 2) hx hb hts w2 hown hK hP 0 rfl rfl 0 (by decide) w1 (fun _ h9 => h9) rfl dX1_faultFor_54 ?_
      refine lv_goto (tgt := 62) hx hb dX1_faultFor_57 (by decide) ?_
      have hM := Option.some.inj hM
      subst hM
      rw [← hQ]
      exact on_iret hx hb hr hlk hP hD hS dX1_faultFor_62
  · subst ho
    have hM := on_elL hM
    exact Option.some.inj hM
abbrev rm_X5_fault : Room := { frames := 2, cells := 0, slots := 0, locals := 41 }
set_option maxHeartbeats 4000000 in
set_option maxRecDepth 100000 in
theorem k_X5_fault {l : Launch} {D : va_G} {cI cJ cZ cS cA : ClassId} (h_t : Nat) (h_t_now : Nat) (h_t_images : Nat) (h_t_pad : Nat) (h_t_net : Nat) (h_t_second : Nat) (h_t_renumbering : Nat) (h_t_table : Nat) (h_t_marks : Nat) (h_t_now_numbers : Nat) (h_t_pad_signs : Nat) (t_now_many : Int32) (t_pad_size : Int32) (t_pad_signs : Nat → Int32) (v1 : Int32) (out : Int32) (hM : M_X5_fault v1 t_now_many t_pad_size t_pad_signs = some out) : on_Con l yX5_fault wsX5_fault rm_X5_fault [.ref h_t, .int v1] D (on_T cI cJ cZ cS cA) [(h_t, .inr (5, [.ref h_t_now, .ref h_t_images, .ref h_t_pad, .ref h_t_net, .ref h_t_second, .ref h_t_renumbering, .ref h_t_table, .ref h_t_marks])), (h_t_now, .inr (3, [.int t_now_many, .ref h_t_now_numbers])), (h_t_pad, .inr (1, [.int t_pad_size, .ref h_t_pad_signs])), (h_t_pad_signs, .inl (cI, 35, .inl t_pad_signs))] (some (.int out)) [(h_t, .inr (5, [.ref h_t_now, .ref h_t_images, .ref h_t_pad, .ref h_t_net, .ref h_t_second, .ref h_t_renumbering, .ref h_t_table, .ref h_t_marks])), (h_t_now, .inr (3, [.int t_now_many, .ref h_t_now_numbers])), (h_t_pad, .inr (1, [.int t_pad_size, .ref h_t_pad_signs])), (h_t_pad_signs, .inl (cI, 35, .inl t_pad_signs))] := by
  unfold M_X5_fault at hM
  refine on_enter (cc := cX5_fault) (nL := 2) (rt := (some .int)) (own := RX5) (by decide +kernel) rfl rfl (Nat.le_of_ble_eq_true rfl) ?_
  intro p e s m below meth c A ls hx hb hml hr hlk hts hown hA hK hN H locs hP hD hS hl
  have hl : lv_has ls 2 [(0, .ref h_t), (1, .int v1)] := hl
  generalize hQ : MQ below (on_Q D (some (.int out)) [(h_t, .inr (5, [.ref h_t_now, .ref h_t_images, .ref h_t_pad, .ref h_t_net, .ref h_t_second, .ref h_t_renumbering, .ref h_t_table, .ref h_t_marks])), (h_t_now, .inr (3, [.int t_now_many, .ref h_t_now_numbers])), (h_t_pad, .inr (1, [.int t_pad_size, .ref h_t_pad_signs])), (h_t_pad_signs, .inl (cI, 35, .inl t_pad_signs))] A) _ s 0 0 A = Q
  generalize hAr : List.toArray ([.ref h_t, .int v1] : List Value) = args at hts hQ ⊢
  have w1 := hts (.fieldLink RX5 23 "OddNets" "pad" "LOddNets$Pad;") (by decide +kernel)
  have w2 : ∀ w ∈ wsX50, w ∈ wsX5_fault := by decide +kernel
  have w3 := hts (.initialized RX1) (by decide +kernel)
  have w4 := hts (.instanceMethod yX1_faultFor) (by decide +kernel)
  have w5 := hts (.selects RX1 yX1_faultFor yX1_faultFor) (by decide +kernel)
  refine lv_iload_n hx hb dX5_fault_0 rfl (lv_at hl 1 rfl) ?_
  refine lv_iconst (v := 0) hx hb dX5_fault_1 (by decide) ?_
  refine lv_iconst (v := 1) hx hb dX5_fault_2 (by decide) ?_
  obtain ⟨q_1, hq_1, hM⟩ := on_bind hM
  refine on_callS0 (rest := []) (As := [.int v1, .int (0 : Int32), .int (1 : Int32)]) (st1 := [.int q_1]) ⟨hx, hb, hml, hown, hts⟩ (k_X5_within v1 (0 : Int32) (1 : Int32) q_1 hq_1) (va_cwS 3 hts gX5_fault_X5_within rfl rfl rfl hdX5_within ⟨(Nat.le_of_ble_eq_true rfl), (Nat.le_of_ble_eq_true rfl)⟩) hK hN hP hD hS hA rfl hl.1 rfl (Nat.le_of_ble_eq_true rfl) rfl dX5_fault_3 ⟨Nat.zero_le _, Nat.zero_le _⟩ (fun H locs hP hS => ?_)
  refine lv_if_ne (tgt := 12) hx hb dX5_fault_6 (by decide) (fun c_2 => ?_) (fun c_2 => ?_)
  · have hM := on_neg c_2 hM
    refine lv_aload_n hx hb dX5_fault_12 rfl (lv_at hl 0 rfl) ?_
    refine va_get (D := D) (ci := 5) (v := .ref h_t_pad) (C := RX5) (T := TX5) (N := 8) hx hb hts w2 hown hK hP 0 rfl rfl 2 (by decide) w1 (fun _ h9 => h9) rfl dX5_fault_13 ?_
    refine lv_aload_n hx hb dX5_fault_16 rfl (lv_at hl 0 rfl) ?_
    refine lv_iload_n hx hb dX5_fault_17 rfl (lv_at hl 1 rfl) ?_
    obtain ⟨q_3, hq_3, hM⟩ := on_bind hM
    refine on_callV (rest := [.ref h_t_pad]) (As := [.int v1]) (st1 := [.int q_3, .ref h_t_pad]) (C := RX5) (ci := 5) (q0 := 0) (wc := [(h_t, .inr (5, [.ref h_t_now, .ref h_t_images, .ref h_t_pad, .ref h_t_net, .ref h_t_second, .ref h_t_renumbering, .ref h_t_table, .ref h_t_marks])), (h_t_now, .inr (3, [.int t_now_many, .ref h_t_now_numbers]))]) (wr := [(h_t_pad, .inr (1, [.int t_pad_size, .ref h_t_pad_signs])), (h_t_pad_signs, .inl (cI, 35, .inl t_pad_signs))]) (wc' := [(h_t, .inr (5, [.ref h_t_now, .ref h_t_images, .ref h_t_pad, .ref h_t_net, .ref h_t_second, .ref h_t_renumbering, .ref h_t_table, .ref h_t_marks])), (h_t_now, .inr (3, [.int t_now_many, .ref h_t_now_numbers]))]) (wf := [(h_t, .inr (5, [.ref h_t_now, .ref h_t_images, .ref h_t_pad, .ref h_t_net, .ref h_t_second, .ref h_t_renumbering, .ref h_t_table, .ref h_t_marks])), (h_t_now, .inr (3, [.int t_now_many, .ref h_t_now_numbers])), (h_t_pad, .inr (1, [.int t_pad_size, .ref h_t_pad_signs])), (h_t_pad_signs, .inl (cI, 35, .inl t_pad_signs))]) (rt := (some (.int q_3))) ⟨hx, hb, hml, hown, hts⟩ (k_X5_signsFor h_t h_t_now h_t_images h_t_pad h_t_net h_t_second h_t_renumbering h_t_table h_t_marks h_t_now_numbers t_now_many v1 q_3 hq_3) (cwV 1 hts gX5_fault_X5_signsFor rfl rfl rfl ⟨rfl, hdX5_signsFor⟩ ⟨(Nat.le_of_ble_eq_true rfl), (Nat.le_of_ble_eq_true rfl)⟩) hK hN hP hD hS hA [0, 1] [2, 3] [2, 3, 0, 1] rfl rfl rfl rfl (by decide) rfl rfl rfl rfl rfl rfl hl.1 rfl (Nat.le_of_ble_eq_true rfl) rfl dX5_fault_18 ⟨Nat.zero_le _, Nat.zero_le _⟩ (fun H locs hP hD hS => ?_)
    obtain ⟨q_4, hq_4, hM⟩ := on_bind hM
    refine on_callVN (rest := []) (As := [.int q_3]) (st1 := [.int q_4]) (C := RX1) (ci := 1) (q0 := 2) (wc := [(h_t_pad, .inr (1, [.int t_pad_size, .ref h_t_pad_signs])), (h_t_pad_signs, .inl (cI, 35, .inl t_pad_signs))]) (wr := [(h_t, .inr (5, [.ref h_t_now, .ref h_t_images, .ref h_t_pad, .ref h_t_net, .ref h_t_second, .ref h_t_renumbering, .ref h_t_table, .ref h_t_marks])), (h_t_now, .inr (3, [.int t_now_many, .ref h_t_now_numbers]))]) (wc' := [(h_t_pad, .inr (1, [.int t_pad_size, .ref h_t_pad_signs])), (h_t_pad_signs, .inl (cI, 35, .inl t_pad_signs))]) (wf := [(h_t, .inr (5, [.ref h_t_now, .ref h_t_images, .ref h_t_pad, .ref h_t_net, .ref h_t_second, .ref h_t_renumbering, .ref h_t_table, .ref h_t_marks])), (h_t_now, .inr (3, [.int t_now_many, .ref h_t_now_numbers])), (h_t_pad, .inr (1, [.int t_pad_size, .ref h_t_pad_signs])), (h_t_pad_signs, .inl (cI, 35, .inl t_pad_signs))]) (rt := (some (.int q_4))) ⟨hx, hb, hml, hown, hts⟩ (k_X1_faultFor h_t_pad h_t_pad_signs t_pad_size t_pad_signs q_3 q_4 hq_4) ⟨va_cnB 1 hts gX5_fault_X1_faultFor_n105 rfl rfl rfl (hN _ (List.mem_of_getElem? (i := 22) rfl)) w3 hdX1_faultFor ⟨(Nat.le_of_ble_eq_true rfl), (Nat.le_of_ble_eq_true rfl)⟩, w4, w5⟩ hK hN hP hD hS hA [2, 3] [0, 1] [0, 1, 2, 3] rfl rfl rfl rfl (by decide) rfl rfl rfl rfl rfl rfl hl.1 rfl (Nat.le_of_ble_eq_true rfl) rfl dX5_fault_21 ⟨Nat.zero_le _, Nat.zero_le _⟩ (fun H locs hP hD hS => ?_)
    have hM := Option.some.inj hM
    subst hM
    rw [← hQ]
    exact on_iret hx hb hr hlk hP hD hS dX5_fault_24
  · have hM := on_pos c_2 hM
    refine lv_bipush (v := -2) hx hb dX5_fault_9 (by decide) ?_
    have hM := Option.some.inj hM
    subst hM
    rw [← hQ]
    exact on_iret hx hb hr hlk hP hD hS dX5_fault_11
abbrev rm_X1_tells : Room := { frames := 0, cells := 0, slots := 0, locals := 0 }
set_option maxHeartbeats 4000000 in
set_option maxRecDepth 100000 in
theorem k_X1_tells {l : Launch} {D : va_G} {cI cJ cZ cS cA : ClassId} (h_t : Nat) (h_t_signs : Nat) (t_size : Int32) (t_signs : Nat → Int32) (v1 : Int32) (out : Int32) (hM : M_X1_tells v1 t_size t_signs = some out) : on_Con l yX1_tells wsX1_tells rm_X1_tells [.ref h_t, .int v1] D (on_T cI cJ cZ cS cA) [(h_t, .inr (1, [.int t_size, .ref h_t_signs])), (h_t_signs, .inl (cI, 35, .inl t_signs))] (some (.int out)) [(h_t, .inr (1, [.int t_size, .ref h_t_signs])), (h_t_signs, .inl (cI, 35, .inl t_signs))] := by
  unfold M_X1_tells at hM
  refine on_enter (cc := cX1_tells) (nL := 2) (rt := (some .boolean)) (own := RX1) (by decide +kernel) rfl rfl (Nat.le_of_ble_eq_true rfl) ?_
  intro p e s m below meth c A ls hx hb hml hr hlk hts hown hA hK hN H locs hP hD hS hl
  have hl : lv_has ls 2 [(0, .ref h_t), (1, .int v1)] := hl
  generalize hQ : MQ below (on_Q D (some (.int out)) [(h_t, .inr (1, [.int t_size, .ref h_t_signs])), (h_t_signs, .inl (cI, 35, .inl t_signs))] A) _ s 0 0 A = Q
  generalize hAr : List.toArray ([.ref h_t, .int v1] : List Value) = args at hts hQ ⊢
  have w1 := hts (.fieldLink RX1 9 "OddNets$Pad" "size" "I") (by decide +kernel)
  have w2 : ∀ w ∈ wsX10, w ∈ wsX1_tells := by decide +kernel
  have w3 := hts (.fieldLink RX1 15 "OddNets$Pad" "signs" "[I") (by decide +kernel)
  refine lv_iload_n hx hb dX1_tells_0 rfl (lv_at hl 1 rfl) ?_
  refine lv_if_lt (tgt := 27) hx hb dX1_tells_1 (by decide) (fun c_1 => ?_) (fun c_1 => ?_)
  · have hM := on_pos c_1 hM
    refine lv_iconst (v := 0) hx hb dX1_tells_27 (by decide) ?_
    have hM := Option.some.inj hM
    subst hM
    rw [← hQ]
    exact on_zret hx hb hr hlk hP hD hS rfl dX1_tells_28
  · have hM := on_neg c_1 hM
    refine lv_iload_n hx hb dX1_tells_4 rfl (lv_at hl 1 rfl) ?_
    refine lv_aload_n hx hb dX1_tells_5 rfl (lv_at hl 0 rfl) ?_
    refine va_get (D := D) (ci := 1) (v := .int t_size) (C := RX1) (T := TX1) (N := 2) hx hb hts w2 hown hK hP 0 rfl rfl 0 (by decide) w1 (fun _ h9 => h9) rfl dX1_tells_6 ?_
    refine lv_icmp_ge (tgt := 27) hx hb dX1_tells_9 (by decide) (fun c_2 => ?_) (fun c_2 => ?_)
    · have hM := on_pos c_2 hM
      refine lv_iconst (v := 0) hx hb dX1_tells_27 (by decide) ?_
      have hM := Option.some.inj hM
      subst hM
      rw [← hQ]
      exact on_zret hx hb hr hlk hP hD hS rfl dX1_tells_28
    · have hM := on_neg c_2 hM
      refine lv_aload_n hx hb dX1_tells_12 rfl (lv_at hl 0 rfl) ?_
      refine va_get (D := D) (ci := 1) (v := .ref h_t_signs) (C := RX1) (T := TX1) (N := 2) hx hb hts w2 hown hK hP 0 rfl rfl 1 (by decide) w3 (fun _ h9 => h9) rfl dX1_tells_13 ?_
      refine lv_iload_n hx hb dX1_tells_16 rfl (lv_at hl 1 rfl) ?_
      obtain ⟨g_3, hM⟩ := on_gdE hM
      refine va_iald hx hb hK hP 1 0 rfl rfl (on_ixE g_3) dX1_tells_17 ?_
      refine lv_bipush (v := 49) hx hb dX1_tells_18 (by decide) ?_
      refine lv_icmp_ne (tgt := 27) hx hb dX1_tells_20 (by decide) (fun c_4 => ?_) (fun c_4 => ?_)
      · have hM := on_neg c_4 hM
        refine lv_iconst (v := 0) hx hb dX1_tells_27 (by decide) ?_
        have hM := Option.some.inj hM
        subst hM
        rw [← hQ]
        exact on_zret hx hb hr hlk hP hD hS rfl dX1_tells_28
      · have hM := on_pos c_4 hM
        refine lv_iconst (v := 1) hx hb dX1_tells_23 (by decide) ?_
        refine lv_goto (tgt := 28) hx hb dX1_tells_24 (by decide) ?_
        have hM := Option.some.inj hM
        subst hM
        rw [← hQ]
        exact on_zret hx hb hr hlk hP hD hS rfl dX1_tells_28
abbrev rm_X0_takePairs : Room := { frames := 1, cells := 0, slots := 0, locals := 23 }
set_option maxHeartbeats 4000000 in
set_option maxRecDepth 100000 in
theorem k_X0_takePairs {l : Launch} {D : va_G} {cI cJ cZ cS cA : ClassId} (h_t : Nat) (h_t_rows : Nat) (h_p0 : Nat) (h_p0_signs : Nat) (t_many : Int32) (t_rows : Nat → Int32) (p0_size : Int32) (p0_signs : Nat → Int32)  (out : (Nat → Int32)) (hM : M_X0_takePairs t_many t_rows p0_size p0_signs = some out) : on_Con l yX0_takePairs wsX0_takePairs rm_X0_takePairs [.ref h_t, .ref h_p0] D (on_T cI cJ cZ cS cA) [(h_t, .inr (0, [.int t_many, .ref h_t_rows])), (h_t_rows, .inl (cI, 7, .inl t_rows)), (h_p0, .inr (1, [.int p0_size, .ref h_p0_signs])), (h_p0_signs, .inl (cI, 35, .inl p0_signs))] none [(h_t, .inr (0, [.int t_many, .ref h_t_rows])), (h_t_rows, .inl (cI, 7, .inl out)), (h_p0, .inr (1, [.int p0_size, .ref h_p0_signs])), (h_p0_signs, .inl (cI, 35, .inl p0_signs))] := by
  unfold M_X0_takePairs at hM
  refine on_enter (cc := cX0_takePairs) (nL := 5) (rt := none) (own := RX0) (by decide +kernel) rfl rfl (Nat.le_of_ble_eq_true rfl) ?_
  intro p e s m below meth c A ls hx hb hml hr hlk hts hown hA hK hN H locs hP hD hS hl
  have hl : lv_has ls 5 [(0, .ref h_t), (1, .ref h_p0)] := hl
  generalize hQ : MQ below (on_Q D none [(h_t, .inr (0, [.int t_many, .ref h_t_rows])), (h_t_rows, .inl (cI, 7, .inl out)), (h_p0, .inr (1, [.int p0_size, .ref h_p0_signs])), (h_p0_signs, .inl (cI, 35, .inl p0_signs))] A) _ s 0 0 A = Q
  generalize hAr : List.toArray ([.ref h_t, .ref h_p0] : List Value) = args at hts hQ ⊢
  have w1 := hts (.fieldLink RX0 9 "OddNets$Net" "many" "I") (by decide +kernel)
  have w2 : ∀ w ∈ wsX00, w ∈ wsX0_takePairs := by decide +kernel
  have w3 := hts (.initialized RX1) (by decide +kernel)
  have w4 := hts (.instanceMethod yX1_tells) (by decide +kernel)
  have w5 := hts (.selects RX1 yX1_tells yX1_tells) (by decide +kernel)
  have lp_17 : ∀ (v3 : Int32), ∀ (n : Nat) (v2 : Int32) (v4 : Int32) (t_rows : Nat → Int32) (x : Int32 × (Nat → Int32)), on_loop (fun (s : Int32 × Int32 × (Nat → Int32)) => B_X0_takePairs_17 v3 t_many p0_size p0_signs s.1 s.2.1 s.2.2) n (v2, v4, t_rows) = some x → (∀ (H : Heap) (locs : List Loc), va_P D vwCl [(h_t, .inr (0, [.int t_many, .ref h_t_rows])), (h_t_rows, .inl (cI, 7, .inl x.2)), (h_p0, .inr (1, [.int p0_size, .ref h_p0_signs])), (h_p0_signs, .inl (cI, 35, .inl p0_signs))] H → va_D A [(h_t, .inr (0, [.int t_many, .ref h_t_rows])), (h_t_rows, .inl (cI, 7, .inl x.2)), (h_p0, .inr (1, [.int p0_size, .ref h_p0_signs])), (h_p0_signs, .inl (cI, 35, .inl p0_signs))] → va_S A s.heap H locs → ∀ ls : Array Slot, lv_has ls 5 [(0, .ref h_t), (1, .ref h_p0), (2, .int x.1), (3, .int v3)] → W p l e rm_X0_takePairs s m args below meth c H locs 0 0 Q (F0 m 47 ls [])) → ∀ (H : Heap) (locs : List Loc), va_P D vwCl [(h_t, .inr (0, [.int t_many, .ref h_t_rows])), (h_t_rows, .inl (cI, 7, .inl t_rows)), (h_p0, .inr (1, [.int p0_size, .ref h_p0_signs])), (h_p0_signs, .inl (cI, 35, .inl p0_signs))] H → va_D A [(h_t, .inr (0, [.int t_many, .ref h_t_rows])), (h_t_rows, .inl (cI, 7, .inl t_rows)), (h_p0, .inr (1, [.int p0_size, .ref h_p0_signs])), (h_p0_signs, .inl (cI, 35, .inl p0_signs))] → va_S A s.heap H locs → ∀ ls : Array Slot, lv_has ls 5 [(0, .ref h_t), (1, .ref h_p0), (2, .int v2), (3, .int v3), (4, .int v4)] → W p l e rm_X0_takePairs s m args below meth c H locs 0 0 Q (F0 m 17 ls []) := by
    intro v3
    intro n
    induction n with
    | zero =>
      intro v2 v4 t_rows x hL
      exact (on_loop0 hL).elim
    | succ n ih =>
      intro v2 v4 t_rows x hL K1 H locs hP hD hS ls hl
      obtain ⟨y, hM, hk⟩ := on_loopE hL
      have hM : B_X0_takePairs_17 v3 t_many p0_size p0_signs v2 v4 t_rows = some y := hM
      unfold B_X0_takePairs_17 at hM
      refine lv_iload hx hb dX0_takePairs_17 (lv_at hl 4 rfl) ?_
      refine lv_aload_n hx hb dX0_takePairs_19 rfl (lv_at hl 0 rfl) ?_
      refine va_get (D := D) (ci := 0) (v := .int t_many) (C := RX0) (T := TX0) (N := 2) hx hb hts w2 hown hK hP 0 rfl rfl 0 (by decide) w1 (fun _ h9 => h9) rfl dX0_takePairs_20 ?_
      refine lv_icmp_ge (tgt := 47) hx hb dX0_takePairs_23 (by decide) (fun c_3 => ?_) (fun c_3 => ?_)
      · have hM := on_pos c_3 hM
        have hk := on_nxR hM hk
        subst hk
        exact K1 _ _ hP hD hS ls (lv_sub hl [0, 1, 2, 3] rfl)
      · have hM := on_neg c_3 hM
        refine lv_aload_n hx hb dX0_takePairs_26 rfl (lv_at hl 0 rfl) ?_
        refine lv_iload_n hx hb dX0_takePairs_27 rfl (lv_at hl 3 rfl) ?_
        refine lv_iload hx hb dX0_takePairs_28 (lv_at hl 4 rfl) ?_
        refine lv_aload_n hx hb dX0_takePairs_30 rfl (lv_at hl 1 rfl) ?_
        refine lv_iload_n hx hb dX0_takePairs_31 rfl (lv_at hl 2 rfl) ?_
        obtain ⟨q_4, hq_4, hM⟩ := on_bind hM
        refine on_callVN (rest := [.int v4, .int v3, .ref h_t]) (As := [.int v2]) (st1 := [.int q_4, .int v4, .int v3, .ref h_t]) (C := RX1) (ci := 1) (q0 := 2) (wc := [(h_p0, .inr (1, [.int p0_size, .ref h_p0_signs])), (h_p0_signs, .inl (cI, 35, .inl p0_signs))]) (wr := [(h_t, .inr (0, [.int t_many, .ref h_t_rows])), (h_t_rows, .inl (cI, 7, .inl t_rows))]) (wc' := [(h_p0, .inr (1, [.int p0_size, .ref h_p0_signs])), (h_p0_signs, .inl (cI, 35, .inl p0_signs))]) (wf := [(h_t, .inr (0, [.int t_many, .ref h_t_rows])), (h_t_rows, .inl (cI, 7, .inl t_rows)), (h_p0, .inr (1, [.int p0_size, .ref h_p0_signs])), (h_p0_signs, .inl (cI, 35, .inl p0_signs))]) (rt := (some (.int q_4))) ⟨hx, hb, hml, hown, hts⟩ (k_X1_tells h_p0 h_p0_signs p0_size p0_signs v2 q_4 hq_4) ⟨va_cnB 1 hts gX0_takePairs_X1_tells_n33 rfl rfl rfl (hN _ (List.mem_of_getElem? (i := 24) rfl)) w3 hdX1_tells ⟨(Nat.le_of_ble_eq_true rfl), (Nat.le_of_ble_eq_true rfl)⟩, w4, w5⟩ hK hN hP hD hS hA [2, 3] [0, 1] [0, 1, 2, 3] rfl rfl rfl rfl (by decide) rfl rfl rfl rfl rfl rfl hl.1 rfl (Nat.le_of_ble_eq_true rfl) rfl dX0_takePairs_32 ⟨Nat.zero_le _, Nat.zero_le _⟩ (fun H locs hP hD hS => ?_)
        obtain ⟨q_5, hq_5, hM⟩ := on_bind hM
        refine on_callV (rest := []) (As := [.int v3, .int v4, .int q_4]) (st1 := []) (C := RX0) (ci := 0) (q0 := 0) (wc := [(h_t, .inr (0, [.int t_many, .ref h_t_rows])), (h_t_rows, .inl (cI, 7, .inl t_rows))]) (wr := [(h_p0, .inr (1, [.int p0_size, .ref h_p0_signs])), (h_p0_signs, .inl (cI, 35, .inl p0_signs))]) (wc' := [(h_t, .inr (0, [.int t_many, .ref h_t_rows])), (h_t_rows, .inl (cI, 7, .inl q_5))]) (wf := [(h_t, .inr (0, [.int t_many, .ref h_t_rows])), (h_t_rows, .inl (cI, 7, .inl q_5)), (h_p0, .inr (1, [.int p0_size, .ref h_p0_signs])), (h_p0_signs, .inl (cI, 35, .inl p0_signs))]) (rt := none) ⟨hx, hb, hml, hown, hts⟩ (k_X0_connect h_t h_t_rows t_many t_rows v3 v4 q_4 q_5 hq_5) (cwV 3 hts gX0_takePairs_X0_connect rfl rfl rfl ⟨rfl, hdX0_connect⟩ ⟨(Nat.le_of_ble_eq_true rfl), (Nat.le_of_ble_eq_true rfl)⟩) hK hN hP hD hS hA [0, 1] [2, 3] [2, 3, 0, 1] rfl rfl rfl rfl (by decide) rfl rfl rfl rfl rfl rfl hl.1 rfl (Nat.le_of_ble_eq_true rfl) rfl dX0_takePairs_35 ⟨Nat.zero_le _, Nat.zero_le _⟩ (fun H locs hP hD hS => ?_)
        obtain ⟨v2_6, ev2_6⟩ : ∃ z : Int32, z = v2 + 1 := ⟨_, rfl⟩
        have hM := on_letE ev2_6 hM
        refine lv_iinc (v := v2_6) (lv' := [(2, .int v2_6), (0, .ref h_t), (1, .ref h_p0), (3, .int v3), (4, .int v4)]) hx hb dX0_takePairs_38 hl (k := 2) rfl (by rw [ev2_6]; rfl) (by decide) rfl (fun ls hl => ?_)
        obtain ⟨v4_7, ev4_7⟩ : ∃ z : Int32, z = v4 + 1 := ⟨_, rfl⟩
        have hM := on_letE ev4_7 hM
        refine lv_iinc (v := v4_7) (lv' := [(4, .int v4_7), (2, .int v2_6), (0, .ref h_t), (1, .ref h_p0), (3, .int v3)]) hx hb dX0_takePairs_41 hl (k := 4) rfl (by rw [ev4_7]; rfl) (by decide) rfl (fun ls hl => ?_)
        refine lv_goto (tgt := 17) hx hb dX0_takePairs_44 (by decide) ?_
        have hk := on_nxL hM hk
        exact ih v2_6 v4_7 q_5 _ hk K1 _ _ hP hD hS ls (lv_sub hl [2, 3, 1, 4, 0] rfl)
  have lp_4 : ∀ (n : Nat) (v2 : Int32) (v3 : Int32) (t_rows : Nat → Int32) (x : (Nat → Int32)), on_loop (fun (s : Int32 × Int32 × (Nat → Int32)) => B_X0_takePairs_4 t_many p0_size p0_signs s.1 s.2.1 s.2.2) n (v2, v3, t_rows) = some x → (∀ (H : Heap) (locs : List Loc), va_P D vwCl [(h_t, .inr (0, [.int t_many, .ref h_t_rows])), (h_t_rows, .inl (cI, 7, .inl x)), (h_p0, .inr (1, [.int p0_size, .ref h_p0_signs])), (h_p0_signs, .inl (cI, 35, .inl p0_signs))] H → va_D A [(h_t, .inr (0, [.int t_many, .ref h_t_rows])), (h_t_rows, .inl (cI, 7, .inl x)), (h_p0, .inr (1, [.int p0_size, .ref h_p0_signs])), (h_p0_signs, .inl (cI, 35, .inl p0_signs))] → va_S A s.heap H locs → ∀ ls : Array Slot, lv_has ls 5 [] → W p l e rm_X0_takePairs s m args below meth c H locs 0 0 Q (F0 m 53 ls [])) → ∀ (H : Heap) (locs : List Loc), va_P D vwCl [(h_t, .inr (0, [.int t_many, .ref h_t_rows])), (h_t_rows, .inl (cI, 7, .inl t_rows)), (h_p0, .inr (1, [.int p0_size, .ref h_p0_signs])), (h_p0_signs, .inl (cI, 35, .inl p0_signs))] H → va_D A [(h_t, .inr (0, [.int t_many, .ref h_t_rows])), (h_t_rows, .inl (cI, 7, .inl t_rows)), (h_p0, .inr (1, [.int p0_size, .ref h_p0_signs])), (h_p0_signs, .inl (cI, 35, .inl p0_signs))] → va_S A s.heap H locs → ∀ ls : Array Slot, lv_has ls 5 [(0, .ref h_t), (1, .ref h_p0), (2, .int v2), (3, .int v3)] → W p l e rm_X0_takePairs s m args below meth c H locs 0 0 Q (F0 m 4 ls []) := by
    intro n
    induction n with
    | zero =>
      intro v2 v3 t_rows x hL
      exact (on_loop0 hL).elim
    | succ n ih =>
      intro v2 v3 t_rows x hL K1 H locs hP hD hS ls hl
      obtain ⟨y, hM, hk⟩ := on_loopE hL
      have hM : B_X0_takePairs_4 t_many p0_size p0_signs v2 v3 t_rows = some y := hM
      unfold B_X0_takePairs_4 at hM
      refine lv_iload_n hx hb dX0_takePairs_4 rfl (lv_at hl 3 rfl) ?_
      refine lv_aload_n hx hb dX0_takePairs_5 rfl (lv_at hl 0 rfl) ?_
      refine va_get (D := D) (ci := 0) (v := .int t_many) (C := RX0) (T := TX0) (N := 2) hx hb hts w2 hown hK hP 0 rfl rfl 0 (by decide) w1 (fun _ h9 => h9) rfl dX0_takePairs_6 ?_
      refine lv_icmp_ge (tgt := 53) hx hb dX0_takePairs_9 (by decide) (fun c_1 => ?_) (fun c_1 => ?_)
      · have hM := on_pos c_1 hM
        have hk := on_nxR hM hk
        subst hk
        exact K1 _ _ hP hD hS ls (lv_sub hl [] rfl)
      · have hM := on_neg c_1 hM
        refine lv_iload_n hx hb dX0_takePairs_12 rfl (lv_at hl 3 rfl) ?_
        refine lv_iconst (v := 1) hx hb dX0_takePairs_13 (by decide) ?_
        refine lv_iadd hx hb dX0_takePairs_14 ?_
        refine lv_topi (fun v4_2 ev4_2 => ?_)
        have hM := on_letE ev4_2 hM
        refine lv_istore (lv' := [(4, .int v4_2), (0, .ref h_t), (1, .ref h_p0), (2, .int v2), (3, .int v3)]) hx hb dX0_takePairs_15 hl (by decide) rfl (fun ls hl => ?_)
        obtain ⟨q_8, hq_8, hM⟩ := on_bind hM
        refine lp_17 v3 on_F v2 v4_2 t_rows q_8 hq_8 (fun H locs hP hD hS ls hl => ?_) H locs hP hD hS ls (lv_sub hl [1, 2, 3, 4, 0] rfl)
        obtain ⟨v3_9, ev3_9⟩ : ∃ z : Int32, z = v3 + 1 := ⟨_, rfl⟩
        have hM := on_letE ev3_9 hM
        refine lv_iinc (v := v3_9) (lv' := [(3, .int v3_9), (0, .ref h_t), (1, .ref h_p0), (2, .int q_8.1)]) hx hb dX0_takePairs_47 hl (k := 3) rfl (by rw [ev3_9]; rfl) (by decide) rfl (fun ls hl => ?_)
        refine lv_goto (tgt := 4) hx hb dX0_takePairs_50 (by decide) ?_
        have hk := on_nxL hM hk
        exact ih q_8.1 v3_9 q_8.2 _ hk K1 _ _ hP hD hS ls (lv_sub hl [1, 2, 3, 0] rfl)
  refine lv_iconst (v := 0) hx hb dX0_takePairs_0 (by decide) ?_
  refine lv_istore_n (lv' := [(2, .int (0 : Int32)), (0, .ref h_t), (1, .ref h_p0)]) hx hb dX0_takePairs_1 rfl hl (by decide) rfl (fun ls hl => ?_)
  refine lv_iconst (v := 0) hx hb dX0_takePairs_2 (by decide) ?_
  refine lv_istore_n (lv' := [(3, .int (0 : Int32)), (2, .int (0 : Int32)), (0, .ref h_t), (1, .ref h_p0)]) hx hb dX0_takePairs_3 rfl hl (by decide) rfl (fun ls hl => ?_)
  obtain ⟨q_10, hq_10, hM⟩ := on_bind hM
  refine lp_4  on_F (0 : Int32) (0 : Int32) t_rows q_10 hq_10 (fun H locs hP hD hS ls hl => ?_) H locs hP hD hS ls (lv_sub hl [2, 3, 1, 0] rfl)
  have hM := Option.some.inj hM
  subst hM
  rw [← hQ]
  exact on_vret hx hb hr hlk hP hD hS dX0_takePairs_53
abbrev rm_X0_isOdd : Room := { frames := 1, cells := 0, slots := 0, locals := 22 }
set_option maxHeartbeats 4000000 in
set_option maxRecDepth 100000 in
theorem k_X0_isOdd {l : Launch} {D : va_G} {cI cJ cZ cS cA : ClassId} (h_t : Nat) (h_t_rows : Nat) (t_many : Int32) (t_rows : Nat → Int32) (v1 : Int32) (v2 : Int32) (v3 : Int32) (out : Int32) (hM : M_X0_isOdd v1 v2 v3 t_rows = some out) : on_Con l yX0_isOdd wsX0_isOdd rm_X0_isOdd [.ref h_t, .int v1, .int v2, .int v3] D (on_T cI cJ cZ cS cA) [(h_t, .inr (0, [.int t_many, .ref h_t_rows])), (h_t_rows, .inl (cI, 7, .inl t_rows))] (some (.int out)) [(h_t, .inr (0, [.int t_many, .ref h_t_rows])), (h_t_rows, .inl (cI, 7, .inl t_rows))] := by
  unfold M_X0_isOdd at hM
  refine on_enter (cc := cX0_isOdd) (nL := 4) (rt := (some .boolean)) (own := RX0) (by decide +kernel) rfl rfl (Nat.le_of_ble_eq_true rfl) ?_
  intro p e s m below meth c A ls hx hb hml hr hlk hts hown hA hK hN H locs hP hD hS hl
  have hl : lv_has ls 4 [(0, .ref h_t), (1, .int v1), (2, .int v2), (3, .int v3)] := hl
  generalize hQ : MQ below (on_Q D (some (.int out)) [(h_t, .inr (0, [.int t_many, .ref h_t_rows])), (h_t_rows, .inl (cI, 7, .inl t_rows))] A) _ s 0 0 A = Q
  generalize hAr : List.toArray ([.ref h_t, .int v1, .int v2, .int v3] : List Value) = args at hts hQ ⊢
  refine lv_aload_n hx hb dX0_isOdd_0 rfl (lv_at hl 0 rfl) ?_
  refine lv_iload_n hx hb dX0_isOdd_1 rfl (lv_at hl 1 rfl) ?_
  refine lv_iload_n hx hb dX0_isOdd_2 rfl (lv_at hl 2 rfl) ?_
  obtain ⟨q_1, hq_1, hM⟩ := on_bind hM
  refine on_callV (rest := []) (As := [.int v1, .int v2]) (st1 := [.int q_1]) (C := RX0) (ci := 0) (q0 := 0) (wc := [(h_t, .inr (0, [.int t_many, .ref h_t_rows])), (h_t_rows, .inl (cI, 7, .inl t_rows))]) (wr := []) (wc' := [(h_t, .inr (0, [.int t_many, .ref h_t_rows])), (h_t_rows, .inl (cI, 7, .inl t_rows))]) (wf := [(h_t, .inr (0, [.int t_many, .ref h_t_rows])), (h_t_rows, .inl (cI, 7, .inl t_rows))]) (rt := (some (.int q_1))) ⟨hx, hb, hml, hown, hts⟩ (k_X0_joined h_t h_t_rows t_many t_rows v1 v2 q_1 hq_1) (cwV 2 hts gX0_isOdd_X0_joined rfl rfl rfl ⟨rfl, hdX0_joined⟩ ⟨(Nat.le_of_ble_eq_true rfl), (Nat.le_of_ble_eq_true rfl)⟩) hK hN hP hD hS hA [0, 1] [] [0, 1] rfl rfl rfl rfl (by decide) rfl rfl rfl rfl rfl rfl hl.1 rfl (Nat.le_of_ble_eq_true rfl) rfl dX0_isOdd_3 ⟨Nat.zero_le _, Nat.zero_le _⟩ (fun H locs hP hD hS => ?_)
  refine lv_aload_n hx hb dX0_isOdd_6 rfl (lv_at hl 0 rfl) ?_
  refine lv_iload_n hx hb dX0_isOdd_7 rfl (lv_at hl 1 rfl) ?_
  refine lv_iload_n hx hb dX0_isOdd_8 rfl (lv_at hl 3 rfl) ?_
  obtain ⟨q_2, hq_2, hM⟩ := on_bind hM
  refine on_callV (rest := [.int q_1]) (As := [.int v1, .int v3]) (st1 := [.int q_2, .int q_1]) (C := RX0) (ci := 0) (q0 := 0) (wc := [(h_t, .inr (0, [.int t_many, .ref h_t_rows])), (h_t_rows, .inl (cI, 7, .inl t_rows))]) (wr := []) (wc' := [(h_t, .inr (0, [.int t_many, .ref h_t_rows])), (h_t_rows, .inl (cI, 7, .inl t_rows))]) (wf := [(h_t, .inr (0, [.int t_many, .ref h_t_rows])), (h_t_rows, .inl (cI, 7, .inl t_rows))]) (rt := (some (.int q_2))) ⟨hx, hb, hml, hown, hts⟩ (k_X0_joined h_t h_t_rows t_many t_rows v1 v3 q_2 hq_2) (cwV 2 hts gX0_isOdd_X0_joined rfl rfl rfl ⟨rfl, hdX0_joined⟩ ⟨(Nat.le_of_ble_eq_true rfl), (Nat.le_of_ble_eq_true rfl)⟩) hK hN hP hD hS hA [0, 1] [] [0, 1] rfl rfl rfl rfl (by decide) rfl rfl rfl rfl rfl rfl hl.1 rfl (Nat.le_of_ble_eq_true rfl) rfl dX0_isOdd_9 ⟨Nat.zero_le _, Nat.zero_le _⟩ (fun H locs hP hD hS => ?_)
  refine lv_ixor hx hb dX0_isOdd_12 ?_
  refine lv_aload_n hx hb dX0_isOdd_13 rfl (lv_at hl 0 rfl) ?_
  refine lv_iload_n hx hb dX0_isOdd_14 rfl (lv_at hl 2 rfl) ?_
  refine lv_iload_n hx hb dX0_isOdd_15 rfl (lv_at hl 3 rfl) ?_
  obtain ⟨q_3, hq_3, hM⟩ := on_bind hM
  refine on_callV (rest := [.int (q_1 ^^^ q_2)]) (As := [.int v2, .int v3]) (st1 := [.int q_3, .int (q_1 ^^^ q_2)]) (C := RX0) (ci := 0) (q0 := 0) (wc := [(h_t, .inr (0, [.int t_many, .ref h_t_rows])), (h_t_rows, .inl (cI, 7, .inl t_rows))]) (wr := []) (wc' := [(h_t, .inr (0, [.int t_many, .ref h_t_rows])), (h_t_rows, .inl (cI, 7, .inl t_rows))]) (wf := [(h_t, .inr (0, [.int t_many, .ref h_t_rows])), (h_t_rows, .inl (cI, 7, .inl t_rows))]) (rt := (some (.int q_3))) ⟨hx, hb, hml, hown, hts⟩ (k_X0_joined h_t h_t_rows t_many t_rows v2 v3 q_3 hq_3) (cwV 2 hts gX0_isOdd_X0_joined rfl rfl rfl ⟨rfl, hdX0_joined⟩ ⟨(Nat.le_of_ble_eq_true rfl), (Nat.le_of_ble_eq_true rfl)⟩) hK hN hP hD hS hA [0, 1] [] [0, 1] rfl rfl rfl rfl (by decide) rfl rfl rfl rfl rfl rfl hl.1 rfl (Nat.le_of_ble_eq_true rfl) rfl dX0_isOdd_16 ⟨Nat.zero_le _, Nat.zero_le _⟩ (fun H locs hP hD hS => ?_)
  refine lv_ixor hx hb dX0_isOdd_19 ?_
  refine lv_iconst (v := 1) hx hb dX0_isOdd_20 (by decide) ?_
  refine lv_icmp_ne (tgt := 28) hx hb dX0_isOdd_21 (by decide) (fun c_4 => ?_) (fun c_4 => ?_)
  · have hM := on_neg c_4 hM
    refine lv_iconst (v := 0) hx hb dX0_isOdd_28 (by decide) ?_
    have hM := Option.some.inj hM
    subst hM
    rw [← hQ]
    exact on_zret hx hb hr hlk hP hD hS rfl dX0_isOdd_29
  · have hM := on_pos c_4 hM
    refine lv_iconst (v := 1) hx hb dX0_isOdd_24 (by decide) ?_
    refine lv_goto (tgt := 29) hx hb dX0_isOdd_25 (by decide) ?_
    have hM := Option.some.inj hM
    subst hM
    rw [← hQ]
    exact on_zret hx hb hr hlk hP hD hS rfl dX0_isOdd_29
abbrev rm_X0_takeTriples : Room := { frames := 2, cells := 0, slots := 0, locals := 45 }
set_option maxHeartbeats 4000000 in
set_option maxRecDepth 100000 in
theorem k_X0_takeTriples {l : Launch} {D : va_G} {cI cJ cZ cS cA : ClassId} (h_t : Nat) (h_t_rows : Nat) (h_p0 : Nat) (h_p0_signs : Nat) (t_many : Int32) (t_rows : Nat → Int32) (p0_size : Int32) (p0_signs : Nat → Int32)  (out : Int32 × (Nat → Int32)) (hM : M_X0_takeTriples t_many t_rows p0_size p0_signs = some out) : on_Con l yX0_takeTriples wsX0_takeTriples rm_X0_takeTriples [.ref h_t, .ref h_p0] D (on_T cI cJ cZ cS cA) [(h_t, .inr (0, [.int t_many, .ref h_t_rows])), (h_t_rows, .inl (cI, 7, .inl t_rows)), (h_p0, .inr (1, [.int p0_size, .ref h_p0_signs])), (h_p0_signs, .inl (cI, 35, .inl p0_signs))] (some (.int out.1)) [(h_t, .inr (0, [.int t_many, .ref h_t_rows])), (h_t_rows, .inl (cI, 7, .inl out.2)), (h_p0, .inr (1, [.int p0_size, .ref h_p0_signs])), (h_p0_signs, .inl (cI, 35, .inl p0_signs))] := by
  unfold M_X0_takeTriples at hM
  refine on_enter (cc := cX0_takeTriples) (nL := 7) (rt := (some .boolean)) (own := RX0) (by decide +kernel) rfl rfl (Nat.le_of_ble_eq_true rfl) ?_
  intro p e s m below meth c A ls hx hb hml hr hlk hts hown hA hK hN H locs hP hD hS hl
  have hl : lv_has ls 7 [(0, .ref h_t), (1, .ref h_p0)] := hl
  generalize hQ : MQ below (on_Q D (some (.int out.1)) [(h_t, .inr (0, [.int t_many, .ref h_t_rows])), (h_t_rows, .inl (cI, 7, .inl out.2)), (h_p0, .inr (1, [.int p0_size, .ref h_p0_signs])), (h_p0_signs, .inl (cI, 35, .inl p0_signs))] A) _ s 0 0 A = Q
  generalize hAr : List.toArray ([.ref h_t, .ref h_p0] : List Value) = args at hts hQ ⊢
  have w1 := hts (.fieldLink RX0 9 "OddNets$Net" "many" "I") (by decide +kernel)
  have w2 : ∀ w ∈ wsX00, w ∈ wsX0_takeTriples := by decide +kernel
  have w3 := hts (.initialized RX1) (by decide +kernel)
  have w4 := hts (.instanceMethod yX1_tells) (by decide +kernel)
  have w5 := hts (.selects RX1 yX1_tells yX1_tells) (by decide +kernel)
  have lp_32 : ∀ (v3 : Int32) (v4 : Int32), ∀ (n : Nat) (v2 : Int32) (v5 : Int32) (t_rows : Nat → Int32) (x : (Int32 × (Nat → Int32)) ⊕ (Int32 × (Nat → Int32))), on_loop (fun (s : Int32 × Int32 × (Nat → Int32)) => B_X0_takeTriples_32 v3 v4 t_many p0_size p0_signs s.1 s.2.1 s.2.2) n (v2, v5, t_rows) = some x → (∀ u, x = Sum.inr u → ∀ (H : Heap) (locs : List Loc), va_P D vwCl [(h_t, .inr (0, [.int t_many, .ref h_t_rows])), (h_t_rows, .inl (cI, 7, .inl u.2)), (h_p0, .inr (1, [.int p0_size, .ref h_p0_signs])), (h_p0_signs, .inl (cI, 35, .inl p0_signs))] H → va_D A [(h_t, .inr (0, [.int t_many, .ref h_t_rows])), (h_t_rows, .inl (cI, 7, .inl u.2)), (h_p0, .inr (1, [.int p0_size, .ref h_p0_signs])), (h_p0_signs, .inl (cI, 35, .inl p0_signs))] → va_S A s.heap H locs → ∀ ls : Array Slot, lv_has ls 7 [(0, .ref h_t), (1, .ref h_p0), (2, .int u.1), (3, .int v3), (4, .int v4)] → W p l e rm_X0_takeTriples s m args below meth c H locs 0 0 Q (F0 m 90 ls [])) → (∀ o, x = Sum.inl o → o = out) → ∀ (H : Heap) (locs : List Loc), va_P D vwCl [(h_t, .inr (0, [.int t_many, .ref h_t_rows])), (h_t_rows, .inl (cI, 7, .inl t_rows)), (h_p0, .inr (1, [.int p0_size, .ref h_p0_signs])), (h_p0_signs, .inl (cI, 35, .inl p0_signs))] H → va_D A [(h_t, .inr (0, [.int t_many, .ref h_t_rows])), (h_t_rows, .inl (cI, 7, .inl t_rows)), (h_p0, .inr (1, [.int p0_size, .ref h_p0_signs])), (h_p0_signs, .inl (cI, 35, .inl p0_signs))] → va_S A s.heap H locs → ∀ ls : Array Slot, lv_has ls 7 [(0, .ref h_t), (1, .ref h_p0), (2, .int v2), (3, .int v3), (4, .int v4), (5, .int v5)] → W p l e rm_X0_takeTriples s m args below meth c H locs 0 0 Q (F0 m 32 ls []) := by
    intro v3 v4
    intro n
    induction n with
    | zero =>
      intro v2 v5 t_rows x hL
      exact (on_loop0 hL).elim
    | succ n ih =>
      intro v2 v5 t_rows x hL K1 K2 H locs hP hD hS ls hl
      obtain ⟨y, hM, hk⟩ := on_loopE hL
      have hM : B_X0_takeTriples_32 v3 v4 t_many p0_size p0_signs v2 v5 t_rows = some y := hM
      unfold B_X0_takeTriples_32 at hM
      refine lv_iload hx hb dX0_takeTriples_32 (lv_at hl 5 rfl) ?_
      refine lv_aload_n hx hb dX0_takeTriples_34 rfl (lv_at hl 0 rfl) ?_
      refine va_get (D := D) (ci := 0) (v := .int t_many) (C := RX0) (T := TX0) (N := 2) hx hb hts w2 hown hK hP 0 rfl rfl 0 (by decide) w1 (fun _ h9 => h9) rfl dX0_takeTriples_35 ?_
      refine lv_icmp_ge (tgt := 90) hx hb dX0_takeTriples_38 (by decide) (fun c_5 => ?_) (fun c_5 => ?_)
      · have hM := on_pos c_5 hM
        have hk := on_nxR hM hk
        subst hk
        exact K1 _ rfl _ _ hP hD hS ls (lv_sub hl [0, 1, 2, 3, 4] rfl)
      · have hM := on_neg c_5 hM
        refine lv_aload_n hx hb dX0_takeTriples_41 rfl (lv_at hl 1 rfl) ?_
        refine lv_iload_n hx hb dX0_takeTriples_42 rfl (lv_at hl 2 rfl) ?_
        obtain ⟨q_6, hq_6, hM⟩ := on_bind hM
        refine on_callVN (rest := []) (As := [.int v2]) (st1 := [.int q_6]) (C := RX1) (ci := 1) (q0 := 2) (wc := [(h_p0, .inr (1, [.int p0_size, .ref h_p0_signs])), (h_p0_signs, .inl (cI, 35, .inl p0_signs))]) (wr := [(h_t, .inr (0, [.int t_many, .ref h_t_rows])), (h_t_rows, .inl (cI, 7, .inl t_rows))]) (wc' := [(h_p0, .inr (1, [.int p0_size, .ref h_p0_signs])), (h_p0_signs, .inl (cI, 35, .inl p0_signs))]) (wf := [(h_t, .inr (0, [.int t_many, .ref h_t_rows])), (h_t_rows, .inl (cI, 7, .inl t_rows)), (h_p0, .inr (1, [.int p0_size, .ref h_p0_signs])), (h_p0_signs, .inl (cI, 35, .inl p0_signs))]) (rt := (some (.int q_6))) ⟨hx, hb, hml, hown, hts⟩ (k_X1_tells h_p0 h_p0_signs p0_size p0_signs v2 q_6 hq_6) ⟨va_cnB 1 hts gX0_takeTriples_X1_tells_n33 rfl rfl rfl (hN _ (List.mem_of_getElem? (i := 24) rfl)) w3 hdX1_tells ⟨(Nat.le_of_ble_eq_true rfl), (Nat.le_of_ble_eq_true rfl)⟩, w4, w5⟩ hK hN hP hD hS hA [2, 3] [0, 1] [0, 1, 2, 3] rfl rfl rfl rfl (by decide) rfl rfl rfl rfl rfl rfl hl.1 rfl (Nat.le_of_ble_eq_true rfl) rfl dX0_takeTriples_43 ⟨Nat.zero_le _, Nat.zero_le _⟩ (fun H locs hP hD hS => ?_)
        refine lv_istore (lv' := [(6, .int q_6), (0, .ref h_t), (1, .ref h_p0), (2, .int v2), (3, .int v3), (4, .int v4), (5, .int v5)]) hx hb dX0_takeTriples_46 hl (by decide) rfl (fun ls hl => ?_)
        refine lv_iload_n hx hb dX0_takeTriples_48 rfl (lv_at hl 4 rfl) ?_
        refine lv_if_ne (tgt := 65) hx hb dX0_takeTriples_49 (by decide) (fun c_7 => ?_) (fun c_7 => ?_)
        · have hM := on_neg c_7 hM
          refine lv_aload_n hx hb dX0_takeTriples_65 rfl (lv_at hl 1 rfl) ?_
          refine lv_iload_n hx hb dX0_takeTriples_66 rfl (lv_at hl 4 rfl) ?_
          refine lv_iload hx hb dX0_takeTriples_67 (lv_at hl 5 rfl) ?_
          refine lv_iload hx hb dX0_takeTriples_69 (lv_at hl 6 rfl) ?_
          obtain ⟨q_8, hq_8, hM⟩ := on_bind hM
          refine on_callV (rest := []) (As := [.int v3, .int v4, .int v5]) (st1 := [.int q_8]) (C := RX0) (ci := 0) (q0 := 0) (wc := [(h_t, .inr (0, [.int t_many, .ref h_t_rows])), (h_t_rows, .inl (cI, 7, .inl t_rows))]) (wr := [(h_p0, .inr (1, [.int p0_size, .ref h_p0_signs])), (h_p0_signs, .inl (cI, 35, .inl p0_signs))]) (wc' := [(h_t, .inr (0, [.int t_many, .ref h_t_rows])), (h_t_rows, .inl (cI, 7, .inl t_rows))]) (wf := [(h_t, .inr (0, [.int t_many, .ref h_t_rows])), (h_t_rows, .inl (cI, 7, .inl t_rows)), (h_p0, .inr (1, [.int p0_size, .ref h_p0_signs])), (h_p0_signs, .inl (cI, 35, .inl p0_signs))]) (rt := (some (.int q_8))) ⟨hx, hb, hml, hown, hts⟩ (k_X0_isOdd h_t h_t_rows t_many t_rows v3 v4 v5 q_8 hq_8) (cwV 3 hts gX0_takeTriples_X0_isOdd rfl rfl rfl ⟨rfl, hdX0_isOdd⟩ ⟨(Nat.le_of_ble_eq_true rfl), (Nat.le_of_ble_eq_true rfl)⟩) hK hN hP hD hS hA [0, 1] [2, 3] [2, 3, 0, 1] rfl rfl rfl rfl (by decide) rfl rfl rfl rfl rfl rfl hl.1 rfl (Nat.le_of_ble_eq_true rfl) rfl dX0_takeTriples_71 ⟨Nat.zero_le _, Nat.zero_le _⟩ (fun H locs hP hD hS => ?_)
          refine lv_iload hx hb dX0_takeTriples_74 (lv_at hl 0 rfl) ?_
          refine lv_icmp_eq (tgt := 81) hx hb dX0_takeTriples_76 (by decide) (fun c_9 => ?_) (fun c_9 => ?_)
          · have hM := on_pos c_9 hM
            obtain ⟨v2_10, ev2_10⟩ : ∃ z : Int32, z = v2 + 1 := ⟨_, rfl⟩
            have hM := on_letE ev2_10 hM
            refine lv_iinc (v := v2_10) (lv' := [(2, .int v2_10), (6, .int q_6), (0, .ref h_t), (1, .ref h_p0), (3, .int v3), (4, .int v4), (5, .int v5)]) hx hb dX0_takeTriples_81 hl (k := 3) rfl (by rw [ev2_10]; rfl) (by decide) rfl (fun ls hl => ?_)
            obtain ⟨v5_11, ev5_11⟩ : ∃ z : Int32, z = v5 + 1 := ⟨_, rfl⟩
            have hM := on_letE ev5_11 hM
            refine lv_iinc (v := v5_11) (lv' := [(5, .int v5_11), (2, .int v2_10), (6, .int q_6), (0, .ref h_t), (1, .ref h_p0), (3, .int v3), (4, .int v4)]) hx hb dX0_takeTriples_84 hl (k := 6) rfl (by rw [ev5_11]; rfl) (by decide) rfl (fun ls hl => ?_)
            refine lv_goto (tgt := 32) hx hb dX0_takeTriples_87 (by decide) ?_
            have hk := on_nxL hM hk
            exact ih v2_10 v5_11 t_rows _ hk K1 K2 _ _ hP hD hS ls (lv_sub hl [3, 4, 1, 5, 6, 0] rfl)
          · have hM := on_neg c_9 hM
            refine lv_iconst (v := 0) hx hb dX0_takeTriples_79 (by decide) ?_
            have hk := on_nxR hM hk
            subst hk
            have ho := K2 _ rfl
            subst ho
            rw [← hQ]
            exact on_zret hx hb hr hlk hP hD hS rfl dX0_takeTriples_80
        · have hM := on_pos c_7 hM
          refine lv_aload_n hx hb dX0_takeTriples_52 rfl (lv_at hl 1 rfl) ?_
          refine lv_iload hx hb dX0_takeTriples_53 (lv_at hl 5 rfl) ?_
          refine lv_iload hx hb dX0_takeTriples_55 (lv_at hl 6 rfl) ?_
          refine lv_iload hx hb dX0_takeTriples_57 (lv_at hl 0 rfl) ?_
          obtain ⟨q_12, hq_12, hM⟩ := on_bind hM
          refine on_callV (rest := []) (As := [.int v4, .int v5, .int q_6]) (st1 := []) (C := RX0) (ci := 0) (q0 := 0) (wc := [(h_t, .inr (0, [.int t_many, .ref h_t_rows])), (h_t_rows, .inl (cI, 7, .inl t_rows))]) (wr := [(h_p0, .inr (1, [.int p0_size, .ref h_p0_signs])), (h_p0_signs, .inl (cI, 35, .inl p0_signs))]) (wc' := [(h_t, .inr (0, [.int t_many, .ref h_t_rows])), (h_t_rows, .inl (cI, 7, .inl q_12))]) (wf := [(h_t, .inr (0, [.int t_many, .ref h_t_rows])), (h_t_rows, .inl (cI, 7, .inl q_12)), (h_p0, .inr (1, [.int p0_size, .ref h_p0_signs])), (h_p0_signs, .inl (cI, 35, .inl p0_signs))]) (rt := none) ⟨hx, hb, hml, hown, hts⟩ (k_X0_connect h_t h_t_rows t_many t_rows v4 v5 q_6 q_12 hq_12) (cwV 3 hts gX0_takeTriples_X0_connect rfl rfl rfl ⟨rfl, hdX0_connect⟩ ⟨(Nat.le_of_ble_eq_true rfl), (Nat.le_of_ble_eq_true rfl)⟩) hK hN hP hD hS hA [0, 1] [2, 3] [2, 3, 0, 1] rfl rfl rfl rfl (by decide) rfl rfl rfl rfl rfl rfl hl.1 rfl (Nat.le_of_ble_eq_true rfl) rfl dX0_takeTriples_59 ⟨Nat.zero_le _, Nat.zero_le _⟩ (fun H locs hP hD hS => ?_)
          refine lv_goto (tgt := 81) hx hb dX0_takeTriples_62 (by decide) ?_
          obtain ⟨v2_13, ev2_13⟩ : ∃ z : Int32, z = v2 + 1 := ⟨_, rfl⟩
          have hM := on_letE ev2_13 hM
          refine lv_iinc (v := v2_13) (lv' := [(2, .int v2_13), (6, .int q_6), (0, .ref h_t), (1, .ref h_p0), (3, .int v3), (4, .int v4), (5, .int v5)]) hx hb dX0_takeTriples_81 hl (k := 3) rfl (by rw [ev2_13]; rfl) (by decide) rfl (fun ls hl => ?_)
          obtain ⟨v5_14, ev5_14⟩ : ∃ z : Int32, z = v5 + 1 := ⟨_, rfl⟩
          have hM := on_letE ev5_14 hM
          refine lv_iinc (v := v5_14) (lv' := [(5, .int v5_14), (2, .int v2_13), (6, .int q_6), (0, .ref h_t), (1, .ref h_p0), (3, .int v3), (4, .int v4)]) hx hb dX0_takeTriples_84 hl (k := 6) rfl (by rw [ev5_14]; rfl) (by decide) rfl (fun ls hl => ?_)
          refine lv_goto (tgt := 32) hx hb dX0_takeTriples_87 (by decide) ?_
          have hk := on_nxL hM hk
          exact ih v2_13 v5_14 q_12 _ hk K1 K2 _ _ hP hD hS ls (lv_sub hl [3, 4, 1, 5, 6, 0] rfl)
  have lp_17 : ∀ (v3 : Int32), ∀ (n : Nat) (v2 : Int32) (v4 : Int32) (t_rows : Nat → Int32) (x : (Int32 × (Nat → Int32)) ⊕ (Int32 × (Nat → Int32))), on_loop (fun (s : Int32 × Int32 × (Nat → Int32)) => B_X0_takeTriples_17 v3 t_many p0_size p0_signs s.1 s.2.1 s.2.2) n (v2, v4, t_rows) = some x → (∀ u, x = Sum.inr u → ∀ (H : Heap) (locs : List Loc), va_P D vwCl [(h_t, .inr (0, [.int t_many, .ref h_t_rows])), (h_t_rows, .inl (cI, 7, .inl u.2)), (h_p0, .inr (1, [.int p0_size, .ref h_p0_signs])), (h_p0_signs, .inl (cI, 35, .inl p0_signs))] H → va_D A [(h_t, .inr (0, [.int t_many, .ref h_t_rows])), (h_t_rows, .inl (cI, 7, .inl u.2)), (h_p0, .inr (1, [.int p0_size, .ref h_p0_signs])), (h_p0_signs, .inl (cI, 35, .inl p0_signs))] → va_S A s.heap H locs → ∀ ls : Array Slot, lv_has ls 7 [(0, .ref h_t), (1, .ref h_p0), (2, .int u.1), (3, .int v3)] → W p l e rm_X0_takeTriples s m args below meth c H locs 0 0 Q (F0 m 96 ls [])) → (∀ o, x = Sum.inl o → o = out) → ∀ (H : Heap) (locs : List Loc), va_P D vwCl [(h_t, .inr (0, [.int t_many, .ref h_t_rows])), (h_t_rows, .inl (cI, 7, .inl t_rows)), (h_p0, .inr (1, [.int p0_size, .ref h_p0_signs])), (h_p0_signs, .inl (cI, 35, .inl p0_signs))] H → va_D A [(h_t, .inr (0, [.int t_many, .ref h_t_rows])), (h_t_rows, .inl (cI, 7, .inl t_rows)), (h_p0, .inr (1, [.int p0_size, .ref h_p0_signs])), (h_p0_signs, .inl (cI, 35, .inl p0_signs))] → va_S A s.heap H locs → ∀ ls : Array Slot, lv_has ls 7 [(0, .ref h_t), (1, .ref h_p0), (2, .int v2), (3, .int v3), (4, .int v4)] → W p l e rm_X0_takeTriples s m args below meth c H locs 0 0 Q (F0 m 17 ls []) := by
    intro v3
    intro n
    induction n with
    | zero =>
      intro v2 v4 t_rows x hL
      exact (on_loop0 hL).elim
    | succ n ih =>
      intro v2 v4 t_rows x hL K1 K2 H locs hP hD hS ls hl
      obtain ⟨y, hM, hk⟩ := on_loopE hL
      have hM : B_X0_takeTriples_17 v3 t_many p0_size p0_signs v2 v4 t_rows = some y := hM
      unfold B_X0_takeTriples_17 at hM
      refine lv_iload hx hb dX0_takeTriples_17 (lv_at hl 4 rfl) ?_
      refine lv_aload_n hx hb dX0_takeTriples_19 rfl (lv_at hl 0 rfl) ?_
      refine va_get (D := D) (ci := 0) (v := .int t_many) (C := RX0) (T := TX0) (N := 2) hx hb hts w2 hown hK hP 0 rfl rfl 0 (by decide) w1 (fun _ h9 => h9) rfl dX0_takeTriples_20 ?_
      refine lv_icmp_ge (tgt := 96) hx hb dX0_takeTriples_23 (by decide) (fun c_3 => ?_) (fun c_3 => ?_)
      · have hM := on_pos c_3 hM
        have hk := on_nxR hM hk
        subst hk
        exact K1 _ rfl _ _ hP hD hS ls (lv_sub hl [0, 1, 2, 3] rfl)
      · have hM := on_neg c_3 hM
        refine lv_iload hx hb dX0_takeTriples_26 (lv_at hl 4 rfl) ?_
        refine lv_iconst (v := 1) hx hb dX0_takeTriples_28 (by decide) ?_
        refine lv_iadd hx hb dX0_takeTriples_29 ?_
        refine lv_topi (fun v5_4 ev5_4 => ?_)
        have hM := on_letE ev5_4 hM
        refine lv_istore (lv' := [(5, .int v5_4), (0, .ref h_t), (1, .ref h_p0), (2, .int v2), (3, .int v3), (4, .int v4)]) hx hb dX0_takeTriples_30 hl (by decide) rfl (fun ls hl => ?_)
        obtain ⟨q_15, hq_15, hM⟩ := on_bind hM
        refine lp_32 v3 v4 on_F v2 v5_4 t_rows q_15 hq_15 (fun u_16 hv H locs hP hD hS ls hl => ?_) (fun o ho => ?_) H locs hP hD hS ls (lv_sub hl [1, 2, 3, 4, 5, 0] rfl)
        · subst hv
          have hM := on_elR hM
          obtain ⟨v4_17, ev4_17⟩ : ∃ z : Int32, z = v4 + 1 := ⟨_, rfl⟩
          have hM := on_letE ev4_17 hM
          refine lv_iinc (v := v4_17) (lv' := [(4, .int v4_17), (0, .ref h_t), (1, .ref h_p0), (2, .int u_16.1), (3, .int v3)]) hx hb dX0_takeTriples_90 hl (k := 4) rfl (by rw [ev4_17]; rfl) (by decide) rfl (fun ls hl => ?_)
          refine lv_goto (tgt := 17) hx hb dX0_takeTriples_93 (by decide) ?_
          have hk := on_nxL hM hk
          exact ih u_16.1 v4_17 u_16.2 _ hk K1 K2 _ _ hP hD hS ls (lv_sub hl [1, 2, 3, 4, 0] rfl)
        · subst ho
          have hM := on_elL hM
          have hk := on_nxR hM hk
          subst hk
          exact K2 _ rfl
  have lp_4 : ∀ (n : Nat) (v2 : Int32) (v3 : Int32) (t_rows : Nat → Int32) (x : (Int32 × (Nat → Int32)) ⊕ (Nat → Int32)), on_loop (fun (s : Int32 × Int32 × (Nat → Int32)) => B_X0_takeTriples_4 t_many p0_size p0_signs s.1 s.2.1 s.2.2) n (v2, v3, t_rows) = some x → (∀ u, x = Sum.inr u → ∀ (H : Heap) (locs : List Loc), va_P D vwCl [(h_t, .inr (0, [.int t_many, .ref h_t_rows])), (h_t_rows, .inl (cI, 7, .inl u)), (h_p0, .inr (1, [.int p0_size, .ref h_p0_signs])), (h_p0_signs, .inl (cI, 35, .inl p0_signs))] H → va_D A [(h_t, .inr (0, [.int t_many, .ref h_t_rows])), (h_t_rows, .inl (cI, 7, .inl u)), (h_p0, .inr (1, [.int p0_size, .ref h_p0_signs])), (h_p0_signs, .inl (cI, 35, .inl p0_signs))] → va_S A s.heap H locs → ∀ ls : Array Slot, lv_has ls 7 [] → W p l e rm_X0_takeTriples s m args below meth c H locs 0 0 Q (F0 m 102 ls [])) → (∀ o, x = Sum.inl o → o = out) → ∀ (H : Heap) (locs : List Loc), va_P D vwCl [(h_t, .inr (0, [.int t_many, .ref h_t_rows])), (h_t_rows, .inl (cI, 7, .inl t_rows)), (h_p0, .inr (1, [.int p0_size, .ref h_p0_signs])), (h_p0_signs, .inl (cI, 35, .inl p0_signs))] H → va_D A [(h_t, .inr (0, [.int t_many, .ref h_t_rows])), (h_t_rows, .inl (cI, 7, .inl t_rows)), (h_p0, .inr (1, [.int p0_size, .ref h_p0_signs])), (h_p0_signs, .inl (cI, 35, .inl p0_signs))] → va_S A s.heap H locs → ∀ ls : Array Slot, lv_has ls 7 [(0, .ref h_t), (1, .ref h_p0), (2, .int v2), (3, .int v3)] → W p l e rm_X0_takeTriples s m args below meth c H locs 0 0 Q (F0 m 4 ls []) := by
    intro n
    induction n with
    | zero =>
      intro v2 v3 t_rows x hL
      exact (on_loop0 hL).elim
    | succ n ih =>
      intro v2 v3 t_rows x hL K1 K2 H locs hP hD hS ls hl
      obtain ⟨y, hM, hk⟩ := on_loopE hL
      have hM : B_X0_takeTriples_4 t_many p0_size p0_signs v2 v3 t_rows = some y := hM
      unfold B_X0_takeTriples_4 at hM
      refine lv_iload_n hx hb dX0_takeTriples_4 rfl (lv_at hl 3 rfl) ?_
      refine lv_aload_n hx hb dX0_takeTriples_5 rfl (lv_at hl 0 rfl) ?_
      refine va_get (D := D) (ci := 0) (v := .int t_many) (C := RX0) (T := TX0) (N := 2) hx hb hts w2 hown hK hP 0 rfl rfl 0 (by decide) w1 (fun _ h9 => h9) rfl dX0_takeTriples_6 ?_
      refine lv_icmp_ge (tgt := 102) hx hb dX0_takeTriples_9 (by decide) (fun c_1 => ?_) (fun c_1 => ?_)
      · have hM := on_pos c_1 hM
        have hk := on_nxR hM hk
        subst hk
        exact K1 _ rfl _ _ hP hD hS ls (lv_sub hl [] rfl)
      · have hM := on_neg c_1 hM
        refine lv_iload_n hx hb dX0_takeTriples_12 rfl (lv_at hl 3 rfl) ?_
        refine lv_iconst (v := 1) hx hb dX0_takeTriples_13 (by decide) ?_
        refine lv_iadd hx hb dX0_takeTriples_14 ?_
        refine lv_topi (fun v4_2 ev4_2 => ?_)
        have hM := on_letE ev4_2 hM
        refine lv_istore (lv' := [(4, .int v4_2), (0, .ref h_t), (1, .ref h_p0), (2, .int v2), (3, .int v3)]) hx hb dX0_takeTriples_15 hl (by decide) rfl (fun ls hl => ?_)
        obtain ⟨q_18, hq_18, hM⟩ := on_bind hM
        refine lp_17 v3 on_F v2 v4_2 t_rows q_18 hq_18 (fun u_19 hv H locs hP hD hS ls hl => ?_) (fun o ho => ?_) H locs hP hD hS ls (lv_sub hl [1, 2, 3, 4, 0] rfl)
        · subst hv
          have hM := on_elR hM
          obtain ⟨v3_20, ev3_20⟩ : ∃ z : Int32, z = v3 + 1 := ⟨_, rfl⟩
          have hM := on_letE ev3_20 hM
          refine lv_iinc (v := v3_20) (lv' := [(3, .int v3_20), (0, .ref h_t), (1, .ref h_p0), (2, .int u_19.1)]) hx hb dX0_takeTriples_96 hl (k := 3) rfl (by rw [ev3_20]; rfl) (by decide) rfl (fun ls hl => ?_)
          refine lv_goto (tgt := 4) hx hb dX0_takeTriples_99 (by decide) ?_
          have hk := on_nxL hM hk
          exact ih u_19.1 v3_20 u_19.2 _ hk K1 K2 _ _ hP hD hS ls (lv_sub hl [1, 2, 3, 0] rfl)
        · subst ho
          have hM := on_elL hM
          have hk := on_nxR hM hk
          subst hk
          exact K2 _ rfl
  refine lv_iconst (v := 0) hx hb dX0_takeTriples_0 (by decide) ?_
  refine lv_istore_n (lv' := [(2, .int (0 : Int32)), (0, .ref h_t), (1, .ref h_p0)]) hx hb dX0_takeTriples_1 rfl hl (by decide) rfl (fun ls hl => ?_)
  refine lv_iconst (v := 0) hx hb dX0_takeTriples_2 (by decide) ?_
  refine lv_istore_n (lv' := [(3, .int (0 : Int32)), (2, .int (0 : Int32)), (0, .ref h_t), (1, .ref h_p0)]) hx hb dX0_takeTriples_3 rfl hl (by decide) rfl (fun ls hl => ?_)
  obtain ⟨q_21, hq_21, hM⟩ := on_bind hM
  refine lp_4  on_F (0 : Int32) (0 : Int32) t_rows q_21 hq_21 (fun u_22 hv H locs hP hD hS ls hl => ?_) (fun o ho => ?_) H locs hP hD hS ls (lv_sub hl [2, 3, 1, 0] rfl)
  · subst hv
    have hM := on_elR hM
    refine lv_iconst (v := 1) hx hb dX0_takeTriples_102 (by decide) ?_
    have hM := Option.some.inj hM
    subst hM
    rw [← hQ]
    exact on_zret hx hb hr hlk hP hD hS rfl dX0_takeTriples_103
  · subst ho
    have hM := on_elL hM
    exact Option.some.inj hM
abbrev rm_X5_read : Room := { frames := 3, cells := 0, slots := 0, locals := 71 }
set_option maxHeartbeats 4000000 in
set_option maxRecDepth 100000 in
theorem k_X5_read {l : Launch} {D : va_G} {cI cJ cZ cS cA : ClassId} (h_t : Nat) (h_t_now : Nat) (h_t_images : Nat) (h_t_pad : Nat) (h_t_net : Nat) (h_t_second : Nat) (h_t_renumbering : Nat) (h_t_table : Nat) (h_t_marks : Nat) (h_t_now_numbers : Nat) (h_t_pad_signs : Nat) (h_t_net_rows : Nat) (t_now_many : Int32) (t_now_numbers : Nat → Int32) (t_pad_size : Int32) (t_pad_signs : Nat → Int32) (t_net_many : Int32) (t_net_rows : Nat → Int32) (v1 : Int32) (v2 : Int32) (out : Int32 × (Nat → Int32) × Int32 × Int32 × (Nat → Int32)) (hM : M_X5_read v1 v2 t_now_many t_now_numbers t_pad_size t_pad_signs t_net_many t_net_rows = some out) : on_Con l yX5_read wsX5_read rm_X5_read [.ref h_t, .int v1, .int v2] D (on_T cI cJ cZ cS cA) [(h_t, .inr (5, [.ref h_t_now, .ref h_t_images, .ref h_t_pad, .ref h_t_net, .ref h_t_second, .ref h_t_renumbering, .ref h_t_table, .ref h_t_marks])), (h_t_now, .inr (3, [.int t_now_many, .ref h_t_now_numbers])), (h_t_now_numbers, .inl (cI, 3, .inl t_now_numbers)), (h_t_pad, .inr (1, [.int t_pad_size, .ref h_t_pad_signs])), (h_t_pad_signs, .inl (cI, 35, .inl t_pad_signs)), (h_t_net, .inr (0, [.int t_net_many, .ref h_t_net_rows])), (h_t_net_rows, .inl (cI, 7, .inl t_net_rows))] (some (.int out.1)) [(h_t, .inr (5, [.ref h_t_now, .ref h_t_images, .ref h_t_pad, .ref h_t_net, .ref h_t_second, .ref h_t_renumbering, .ref h_t_table, .ref h_t_marks])), (h_t_now, .inr (3, [.int t_now_many, .ref h_t_now_numbers])), (h_t_now_numbers, .inl (cI, 3, .inl out.2.1)), (h_t_pad, .inr (1, [.int out.2.2.1, .ref h_t_pad_signs])), (h_t_pad_signs, .inl (cI, 35, .inl t_pad_signs)), (h_t_net, .inr (0, [.int out.2.2.2.1, .ref h_t_net_rows])), (h_t_net_rows, .inl (cI, 7, .inl out.2.2.2.2))] := by
  unfold M_X5_read at hM
  refine on_enter (cc := cX5_read) (nL := 3) (rt := (some .int)) (own := RX5) (by decide +kernel) rfl rfl (Nat.le_of_ble_eq_true rfl) ?_
  intro p e s m below meth c A ls hx hb hml hr hlk hts hown hA hK hN H locs hP hD hS hl
  have hl : lv_has ls 3 [(0, .ref h_t), (1, .int v1), (2, .int v2)] := hl
  generalize hQ : MQ below (on_Q D (some (.int out.1)) [(h_t, .inr (5, [.ref h_t_now, .ref h_t_images, .ref h_t_pad, .ref h_t_net, .ref h_t_second, .ref h_t_renumbering, .ref h_t_table, .ref h_t_marks])), (h_t_now, .inr (3, [.int t_now_many, .ref h_t_now_numbers])), (h_t_now_numbers, .inl (cI, 3, .inl out.2.1)), (h_t_pad, .inr (1, [.int out.2.2.1, .ref h_t_pad_signs])), (h_t_pad_signs, .inl (cI, 35, .inl t_pad_signs)), (h_t_net, .inr (0, [.int out.2.2.2.1, .ref h_t_net_rows])), (h_t_net_rows, .inl (cI, 7, .inl out.2.2.2.2))] A) _ s 0 0 A = Q
  generalize hAr : List.toArray ([.ref h_t, .int v1, .int v2] : List Value) = args at hts hQ ⊢
  have w1 := hts (.fieldLink RX5 23 "OddNets" "pad" "LOddNets$Pad;") (by decide +kernel)
  have w2 : ∀ w ∈ wsX50, w ∈ wsX5_read := by decide +kernel
  have w3 := hts (.initialized RX1) (by decide +kernel)
  have w4 := hts (.instanceMethod yX1_faultFor) (by decide +kernel)
  have w5 := hts (.selects RX1 yX1_faultFor yX1_faultFor) (by decide +kernel)
  have w6 := hts (.fieldLink RX5 30 "OddNets" "net" "LOddNets$Net;") (by decide +kernel)
  have w7 := hts (.fieldLink RX5 10 "OddNets" "now" "LOddNets$Shelf;") (by decide +kernel)
  have w8 : ∀ w ∈ wsX30, w ∈ wsX5_read := by decide +kernel
  have w9 := hts (.initialized RX0) (by decide +kernel)
  have w10 := hts (.instanceMethod yX0_clear) (by decide +kernel)
  have w11 := hts (.selects RX0 yX0_clear yX0_clear) (by decide +kernel)
  have w12 := hts (.instanceMethod yX0_takeTriples) (by decide +kernel)
  have w13 := hts (.selects RX0 yX0_takeTriples yX0_takeTriples) (by decide +kernel)
  have w14 : ∀ w ∈ wsX10, w ∈ wsX5_read := by decide +kernel
  have w15 := hts (.instanceMethod yX0_number) (by decide +kernel)
  have w16 := hts (.selects RX0 yX0_number yX0_number) (by decide +kernel)
  have w17 := hts (.instanceMethod yX0_takePairs) (by decide +kernel)
  have w18 := hts (.selects RX0 yX0_takePairs yX0_takePairs) (by decide +kernel)
  refine lv_iload_n hx hb dX5_read_0 rfl (lv_at hl 1 rfl) ?_
  obtain ⟨q_1, hq_1, hM⟩ := on_bind hM
  refine on_callS0 (rest := []) (As := [.int v1]) (st1 := [.int q_1]) ⟨hx, hb, hml, hown, hts⟩ (k_X5_isSlot v1 q_1 hq_1) (va_cwS 1 hts gX5_read_X5_isSlot rfl rfl rfl hdX5_isSlot ⟨(Nat.le_of_ble_eq_true rfl), (Nat.le_of_ble_eq_true rfl)⟩) hK hN hP hD hS hA rfl hl.1 rfl (Nat.le_of_ble_eq_true rfl) rfl dX5_read_1 ⟨Nat.zero_le _, Nat.zero_le _⟩ (fun H locs hP hS => ?_)
  refine lv_if_ne (tgt := 9) hx hb dX5_read_4 (by decide) (fun c_2 => ?_) (fun c_2 => ?_)
  · have hM := on_neg c_2 hM
    refine lv_iload_n hx hb dX5_read_9 rfl (lv_at hl 2 rfl) ?_
    refine lv_iconst (v := 0) hx hb dX5_read_10 (by decide) ?_
    refine lv_iconst (v := 1) hx hb dX5_read_11 (by decide) ?_
    obtain ⟨q_3, hq_3, hM⟩ := on_bind hM
    refine on_callS0 (rest := []) (As := [.int v2, .int (0 : Int32), .int (1 : Int32)]) (st1 := [.int q_3]) ⟨hx, hb, hml, hown, hts⟩ (k_X5_within v2 (0 : Int32) (1 : Int32) q_3 hq_3) (va_cwS 3 hts gX5_read_X5_within rfl rfl rfl hdX5_within ⟨(Nat.le_of_ble_eq_true rfl), (Nat.le_of_ble_eq_true rfl)⟩) hK hN hP hD hS hA rfl hl.1 rfl (Nat.le_of_ble_eq_true rfl) rfl dX5_read_12 ⟨Nat.zero_le _, Nat.zero_le _⟩ (fun H locs hP hS => ?_)
    refine lv_if_ne (tgt := 21) hx hb dX5_read_15 (by decide) (fun c_4 => ?_) (fun c_4 => ?_)
    · have hM := on_neg c_4 hM
      refine lv_aload_n hx hb dX5_read_21 rfl (lv_at hl 0 rfl) ?_
      refine va_get (D := D) (ci := 5) (v := .ref h_t_pad) (C := RX5) (T := TX5) (N := 8) hx hb hts w2 hown hK hP 0 rfl rfl 2 (by decide) w1 (fun _ h9 => h9) rfl dX5_read_22 ?_
      refine lv_aload_n hx hb dX5_read_25 rfl (lv_at hl 0 rfl) ?_
      refine lv_iload_n hx hb dX5_read_26 rfl (lv_at hl 2 rfl) ?_
      obtain ⟨q_5, hq_5, hM⟩ := on_bind hM
      refine on_callV (rest := [.ref h_t_pad]) (As := [.int v2]) (st1 := [.int q_5, .ref h_t_pad]) (C := RX5) (ci := 5) (q0 := 0) (wc := [(h_t, .inr (5, [.ref h_t_now, .ref h_t_images, .ref h_t_pad, .ref h_t_net, .ref h_t_second, .ref h_t_renumbering, .ref h_t_table, .ref h_t_marks])), (h_t_now, .inr (3, [.int t_now_many, .ref h_t_now_numbers]))]) (wr := [(h_t_now_numbers, .inl (cI, 3, .inl t_now_numbers)), (h_t_pad, .inr (1, [.int t_pad_size, .ref h_t_pad_signs])), (h_t_pad_signs, .inl (cI, 35, .inl t_pad_signs)), (h_t_net, .inr (0, [.int t_net_many, .ref h_t_net_rows])), (h_t_net_rows, .inl (cI, 7, .inl t_net_rows))]) (wc' := [(h_t, .inr (5, [.ref h_t_now, .ref h_t_images, .ref h_t_pad, .ref h_t_net, .ref h_t_second, .ref h_t_renumbering, .ref h_t_table, .ref h_t_marks])), (h_t_now, .inr (3, [.int t_now_many, .ref h_t_now_numbers]))]) (wf := [(h_t, .inr (5, [.ref h_t_now, .ref h_t_images, .ref h_t_pad, .ref h_t_net, .ref h_t_second, .ref h_t_renumbering, .ref h_t_table, .ref h_t_marks])), (h_t_now, .inr (3, [.int t_now_many, .ref h_t_now_numbers])), (h_t_now_numbers, .inl (cI, 3, .inl t_now_numbers)), (h_t_pad, .inr (1, [.int t_pad_size, .ref h_t_pad_signs])), (h_t_pad_signs, .inl (cI, 35, .inl t_pad_signs)), (h_t_net, .inr (0, [.int t_net_many, .ref h_t_net_rows])), (h_t_net_rows, .inl (cI, 7, .inl t_net_rows))]) (rt := (some (.int q_5))) ⟨hx, hb, hml, hown, hts⟩ (k_X5_signsFor h_t h_t_now h_t_images h_t_pad h_t_net h_t_second h_t_renumbering h_t_table h_t_marks h_t_now_numbers t_now_many v2 q_5 hq_5) (cwV 1 hts gX5_read_X5_signsFor rfl rfl rfl ⟨rfl, hdX5_signsFor⟩ ⟨(Nat.le_of_ble_eq_true rfl), (Nat.le_of_ble_eq_true rfl)⟩) hK hN hP hD hS hA [0, 1] [2, 3, 4, 5, 6] [5, 6, 0, 1, 2, 3, 4] rfl rfl rfl rfl (by decide) rfl rfl rfl rfl rfl rfl hl.1 rfl (Nat.le_of_ble_eq_true rfl) rfl dX5_read_27 ⟨Nat.zero_le _, Nat.zero_le _⟩ (fun H locs hP hD hS => ?_)
      obtain ⟨q_6, hq_6, hM⟩ := on_bind hM
      refine on_callVN (rest := []) (As := [.int q_5]) (st1 := [.int q_6]) (C := RX1) (ci := 1) (q0 := 3) (wc := [(h_t_pad, .inr (1, [.int t_pad_size, .ref h_t_pad_signs])), (h_t_pad_signs, .inl (cI, 35, .inl t_pad_signs))]) (wr := [(h_t, .inr (5, [.ref h_t_now, .ref h_t_images, .ref h_t_pad, .ref h_t_net, .ref h_t_second, .ref h_t_renumbering, .ref h_t_table, .ref h_t_marks])), (h_t_now, .inr (3, [.int t_now_many, .ref h_t_now_numbers])), (h_t_now_numbers, .inl (cI, 3, .inl t_now_numbers)), (h_t_net, .inr (0, [.int t_net_many, .ref h_t_net_rows])), (h_t_net_rows, .inl (cI, 7, .inl t_net_rows))]) (wc' := [(h_t_pad, .inr (1, [.int t_pad_size, .ref h_t_pad_signs])), (h_t_pad_signs, .inl (cI, 35, .inl t_pad_signs))]) (wf := [(h_t, .inr (5, [.ref h_t_now, .ref h_t_images, .ref h_t_pad, .ref h_t_net, .ref h_t_second, .ref h_t_renumbering, .ref h_t_table, .ref h_t_marks])), (h_t_now, .inr (3, [.int t_now_many, .ref h_t_now_numbers])), (h_t_now_numbers, .inl (cI, 3, .inl t_now_numbers)), (h_t_pad, .inr (1, [.int t_pad_size, .ref h_t_pad_signs])), (h_t_pad_signs, .inl (cI, 35, .inl t_pad_signs)), (h_t_net, .inr (0, [.int t_net_many, .ref h_t_net_rows])), (h_t_net_rows, .inl (cI, 7, .inl t_net_rows))]) (rt := (some (.int q_6))) ⟨hx, hb, hml, hown, hts⟩ (k_X1_faultFor h_t_pad h_t_pad_signs t_pad_size t_pad_signs q_5 q_6 hq_6) ⟨va_cnB 1 hts gX5_read_X1_faultFor_n105 rfl rfl rfl (hN _ (List.mem_of_getElem? (i := 22) rfl)) w3 hdX1_faultFor ⟨(Nat.le_of_ble_eq_true rfl), (Nat.le_of_ble_eq_true rfl)⟩, w4, w5⟩ hK hN hP hD hS hA [3, 4] [0, 1, 2, 5, 6] [0, 1, 2, 5, 6, 3, 4] rfl rfl rfl rfl (by decide) rfl rfl rfl rfl rfl rfl hl.1 rfl (Nat.le_of_ble_eq_true rfl) rfl dX5_read_30 ⟨Nat.zero_le _, Nat.zero_le _⟩ (fun H locs hP hD hS => ?_)
      refine lv_bipush (v := -6) hx hb dX5_read_33 (by decide) ?_
      refine lv_icmp_eq (tgt := 41) hx hb dX5_read_35 (by decide) (fun c_7 => ?_) (fun c_7 => ?_)
      · have hM := on_pos c_7 hM
        refine lv_aload_n hx hb dX5_read_41 rfl (lv_at hl 0 rfl) ?_
        refine va_get (D := D) (ci := 5) (v := .ref h_t_net) (C := RX5) (T := TX5) (N := 8) hx hb hts w2 hown hK hP 0 rfl rfl 3 (by decide) w6 (fun _ h9 => h9) rfl dX5_read_42 ?_
        refine lv_aload_n hx hb dX5_read_45 rfl (lv_at hl 0 rfl) ?_
        refine va_get (D := D) (ci := 5) (v := .ref h_t_now) (C := RX5) (T := TX5) (N := 8) hx hb hts w2 hown hK hP 0 rfl rfl 0 (by decide) w7 (fun _ h9 => h9) rfl dX5_read_46 ?_
        refine va_getN (D := D) (ci := 3) (v := .int t_now_many) (C := RX3) (T := TX3) (N := 2) hx hb hts w8 hown hK hP 1 rfl rfl 0 (by decide) (va_Nw.use rfl (hN _ (List.mem_of_getElem? (i := 0) rfl))) (fun _ h9 => h9) rfl dX5_read_49 ?_
        obtain ⟨q_8, hq_8, hM⟩ := on_bind hM
        refine on_callVN (rest := []) (As := [.int t_now_many]) (st1 := []) (C := RX0) (ci := 0) (q0 := 5) (wc := [(h_t_net, .inr (0, [.int t_net_many, .ref h_t_net_rows])), (h_t_net_rows, .inl (cI, 7, .inl t_net_rows))]) (wr := [(h_t, .inr (5, [.ref h_t_now, .ref h_t_images, .ref h_t_pad, .ref h_t_net, .ref h_t_second, .ref h_t_renumbering, .ref h_t_table, .ref h_t_marks])), (h_t_now, .inr (3, [.int t_now_many, .ref h_t_now_numbers])), (h_t_now_numbers, .inl (cI, 3, .inl t_now_numbers)), (h_t_pad, .inr (1, [.int t_pad_size, .ref h_t_pad_signs])), (h_t_pad_signs, .inl (cI, 35, .inl t_pad_signs))]) (wc' := [(h_t_net, .inr (0, [.int q_8.1, .ref h_t_net_rows])), (h_t_net_rows, .inl (cI, 7, .inl q_8.2))]) (wf := [(h_t, .inr (5, [.ref h_t_now, .ref h_t_images, .ref h_t_pad, .ref h_t_net, .ref h_t_second, .ref h_t_renumbering, .ref h_t_table, .ref h_t_marks])), (h_t_now, .inr (3, [.int t_now_many, .ref h_t_now_numbers])), (h_t_now_numbers, .inl (cI, 3, .inl t_now_numbers)), (h_t_pad, .inr (1, [.int t_pad_size, .ref h_t_pad_signs])), (h_t_pad_signs, .inl (cI, 35, .inl t_pad_signs)), (h_t_net, .inr (0, [.int q_8.1, .ref h_t_net_rows])), (h_t_net_rows, .inl (cI, 7, .inl q_8.2))]) (rt := none) ⟨hx, hb, hml, hown, hts⟩ (k_X0_clear h_t_net h_t_net_rows t_net_many t_net_rows t_now_many q_8 hq_8) ⟨va_cnB 1 hts gX5_read_X0_clear_n108 rfl rfl rfl (hN _ (List.mem_of_getElem? (i := 15) rfl)) w9 hdX0_clear ⟨(Nat.le_of_ble_eq_true rfl), (Nat.le_of_ble_eq_true rfl)⟩, w10, w11⟩ hK hN hP hD hS hA [5, 6] [0, 1, 2, 3, 4] [0, 1, 2, 3, 4, 5, 6] rfl rfl rfl rfl (by decide) rfl rfl rfl rfl rfl rfl hl.1 rfl (Nat.le_of_ble_eq_true rfl) rfl dX5_read_52 ⟨Nat.zero_le _, Nat.zero_le _⟩ (fun H locs hP hD hS => ?_)
        refine lv_iload_n hx hb dX5_read_55 rfl (lv_at hl 2 rfl) ?_
        refine lv_if_ne (tgt := 73) hx hb dX5_read_56 (by decide) (fun c_9 => ?_) (fun c_9 => ?_)
        · have hM := on_neg c_9 hM
          refine lv_aload_n hx hb dX5_read_73 rfl (lv_at hl 0 rfl) ?_
          refine va_get (D := D) (ci := 5) (v := .ref h_t_net) (C := RX5) (T := TX5) (N := 8) hx hb hts w2 hown hK hP 0 rfl rfl 3 (by decide) w6 (fun _ h9 => h9) rfl dX5_read_74 ?_
          refine lv_aload_n hx hb dX5_read_77 rfl (lv_at hl 0 rfl) ?_
          refine va_get (D := D) (ci := 5) (v := .ref h_t_pad) (C := RX5) (T := TX5) (N := 8) hx hb hts w2 hown hK hP 0 rfl rfl 2 (by decide) w1 (fun _ h9 => h9) rfl dX5_read_78 ?_
          obtain ⟨q_10, hq_10, hM⟩ := on_bind hM
          refine on_callVN (rest := []) (As := [.ref h_t_pad]) (st1 := [.int q_10.1]) (C := RX0) (ci := 0) (q0 := 5) (wc := [(h_t_net, .inr (0, [.int q_8.1, .ref h_t_net_rows])), (h_t_net_rows, .inl (cI, 7, .inl q_8.2)), (h_t_pad, .inr (1, [.int t_pad_size, .ref h_t_pad_signs])), (h_t_pad_signs, .inl (cI, 35, .inl t_pad_signs))]) (wr := [(h_t, .inr (5, [.ref h_t_now, .ref h_t_images, .ref h_t_pad, .ref h_t_net, .ref h_t_second, .ref h_t_renumbering, .ref h_t_table, .ref h_t_marks])), (h_t_now, .inr (3, [.int t_now_many, .ref h_t_now_numbers])), (h_t_now_numbers, .inl (cI, 3, .inl t_now_numbers))]) (wc' := [(h_t_net, .inr (0, [.int q_8.1, .ref h_t_net_rows])), (h_t_net_rows, .inl (cI, 7, .inl q_10.2)), (h_t_pad, .inr (1, [.int t_pad_size, .ref h_t_pad_signs])), (h_t_pad_signs, .inl (cI, 35, .inl t_pad_signs))]) (wf := [(h_t, .inr (5, [.ref h_t_now, .ref h_t_images, .ref h_t_pad, .ref h_t_net, .ref h_t_second, .ref h_t_renumbering, .ref h_t_table, .ref h_t_marks])), (h_t_now, .inr (3, [.int t_now_many, .ref h_t_now_numbers])), (h_t_now_numbers, .inl (cI, 3, .inl t_now_numbers)), (h_t_pad, .inr (1, [.int t_pad_size, .ref h_t_pad_signs])), (h_t_pad_signs, .inl (cI, 35, .inl t_pad_signs)), (h_t_net, .inr (0, [.int q_8.1, .ref h_t_net_rows])), (h_t_net_rows, .inl (cI, 7, .inl q_10.2))]) (rt := (some (.int q_10.1))) ⟨hx, hb, hml, hown, hts⟩ (k_X0_takeTriples h_t_net h_t_net_rows h_t_pad h_t_pad_signs q_8.1 q_8.2 t_pad_size t_pad_signs q_10 hq_10) ⟨va_cnB 1 hts gX5_read_X0_takeTriples_n113 rfl rfl rfl (hN _ (List.mem_of_getElem? (i := 25) rfl)) w9 hdX0_takeTriples ⟨(Nat.le_of_ble_eq_true rfl), (Nat.le_of_ble_eq_true rfl)⟩, w12, w13⟩ hK hN hP hD hS hA [5, 6, 3, 4] [0, 1, 2] [0, 1, 2, 5, 6, 3, 4] rfl rfl rfl rfl (by decide) rfl rfl rfl rfl rfl rfl hl.1 rfl (Nat.le_of_ble_eq_true rfl) rfl dX5_read_81 ⟨Nat.zero_le _, Nat.zero_le _⟩ (fun H locs hP hD hS => ?_)
          refine lv_if_ne (tgt := 90) hx hb dX5_read_84 (by decide) (fun c_11 => ?_) (fun c_11 => ?_)
          · have hM := on_neg c_11 hM
            refine lv_aload_n hx hb dX5_read_90 rfl (lv_at hl 0 rfl) ?_
            refine va_get (D := D) (ci := 5) (v := .ref h_t_pad) (C := RX5) (T := TX5) (N := 8) hx hb hts w2 hown hK hP 0 rfl rfl 2 (by decide) w1 (fun _ h9 => h9) rfl dX5_read_91 ?_
            refine lv_iconst (v := 0) hx hb dX5_read_94 (by decide) ?_
            refine va_putN (D := D) (ci := 1) (v := .int (0 : Int32)) (ty := .int) (C := RX1) (T := TX1) (N := 2) hx hb hts w14 tyX1 tyX1_ok nmX1 hown hK hP hD hS 3 rfl rfl 0 (by decide) (va_Nw.use rfl (hN _ (List.mem_of_getElem? (i := 2) rfl))) (fun _ h9 => h9) rfl (by decide +kernel) rfl rfl (Nat.le_of_ble_eq_true rfl) dX5_read_95 (fun H locs hP hD hS => ?_)
            have hP : va_P D vwCl [(h_t, .inr (5, [.ref h_t_now, .ref h_t_images, .ref h_t_pad, .ref h_t_net, .ref h_t_second, .ref h_t_renumbering, .ref h_t_table, .ref h_t_marks])), (h_t_now, .inr (3, [.int t_now_many, .ref h_t_now_numbers])), (h_t_now_numbers, .inl (cI, 3, .inl t_now_numbers)), (h_t_pad, .inr (1, [.int (0 : Int32), .ref h_t_pad_signs])), (h_t_pad_signs, .inl (cI, 35, .inl t_pad_signs)), (h_t_net, .inr (0, [.int q_8.1, .ref h_t_net_rows])), (h_t_net_rows, .inl (cI, 7, .inl q_10.2))] H := hP
            have hD : va_D A [(h_t, .inr (5, [.ref h_t_now, .ref h_t_images, .ref h_t_pad, .ref h_t_net, .ref h_t_second, .ref h_t_renumbering, .ref h_t_table, .ref h_t_marks])), (h_t_now, .inr (3, [.int t_now_many, .ref h_t_now_numbers])), (h_t_now_numbers, .inl (cI, 3, .inl t_now_numbers)), (h_t_pad, .inr (1, [.int (0 : Int32), .ref h_t_pad_signs])), (h_t_pad_signs, .inl (cI, 35, .inl t_pad_signs)), (h_t_net, .inr (0, [.int q_8.1, .ref h_t_net_rows])), (h_t_net_rows, .inl (cI, 7, .inl q_10.2))] := hD
            refine lv_aload_n hx hb dX5_read_98 rfl (lv_at hl 0 rfl) ?_
            refine va_get (D := D) (ci := 5) (v := .ref h_t_now) (C := RX5) (T := TX5) (N := 8) hx hb hts w2 hown hK hP 0 rfl rfl 0 (by decide) w7 (fun _ h9 => h9) rfl dX5_read_99 ?_
            refine va_getN (D := D) (ci := 3) (v := .ref h_t_now_numbers) (C := RX3) (T := TX3) (N := 2) hx hb hts w8 hown hK hP 1 rfl rfl 1 (by decide) (va_Nw.use rfl (hN _ (List.mem_of_getElem? (i := 1) rfl))) (fun _ h9 => h9) rfl dX5_read_102 ?_
            refine lv_iload_n hx hb dX5_read_105 rfl (lv_at hl 1 rfl) ?_
            refine lv_aload_n hx hb dX5_read_106 rfl (lv_at hl 0 rfl) ?_
            refine va_get (D := D) (ci := 5) (v := .ref h_t_net) (C := RX5) (T := TX5) (N := 8) hx hb hts w2 hown hK hP 0 rfl rfl 3 (by decide) w6 (fun _ h9 => h9) rfl dX5_read_107 ?_
            obtain ⟨q_12, hq_12, hM⟩ := on_bind hM
            refine on_callVN (rest := [.int v1, .ref h_t_now_numbers]) (As := []) (st1 := [.int q_12, .int v1, .ref h_t_now_numbers]) (C := RX0) (ci := 0) (q0 := 5) (wc := [(h_t_net, .inr (0, [.int q_8.1, .ref h_t_net_rows])), (h_t_net_rows, .inl (cI, 7, .inl q_10.2))]) (wr := [(h_t, .inr (5, [.ref h_t_now, .ref h_t_images, .ref h_t_pad, .ref h_t_net, .ref h_t_second, .ref h_t_renumbering, .ref h_t_table, .ref h_t_marks])), (h_t_now, .inr (3, [.int t_now_many, .ref h_t_now_numbers])), (h_t_now_numbers, .inl (cI, 3, .inl t_now_numbers)), (h_t_pad, .inr (1, [.int (0 : Int32), .ref h_t_pad_signs])), (h_t_pad_signs, .inl (cI, 35, .inl t_pad_signs))]) (wc' := [(h_t_net, .inr (0, [.int q_8.1, .ref h_t_net_rows])), (h_t_net_rows, .inl (cI, 7, .inl q_10.2))]) (wf := [(h_t, .inr (5, [.ref h_t_now, .ref h_t_images, .ref h_t_pad, .ref h_t_net, .ref h_t_second, .ref h_t_renumbering, .ref h_t_table, .ref h_t_marks])), (h_t_now, .inr (3, [.int t_now_many, .ref h_t_now_numbers])), (h_t_now_numbers, .inl (cI, 3, .inl t_now_numbers)), (h_t_pad, .inr (1, [.int (0 : Int32), .ref h_t_pad_signs])), (h_t_pad_signs, .inl (cI, 35, .inl t_pad_signs)), (h_t_net, .inr (0, [.int q_8.1, .ref h_t_net_rows])), (h_t_net_rows, .inl (cI, 7, .inl q_10.2))]) (rt := (some (.int q_12))) ⟨hx, hb, hml, hown, hts⟩ (k_X0_number h_t_net h_t_net_rows q_8.1 q_10.2 q_12 hq_12) ⟨va_cnB 0 hts gX5_read_X0_number_n85 rfl rfl rfl (hN _ (List.mem_of_getElem? (i := 19) rfl)) w9 hdX0_number ⟨(Nat.le_of_ble_eq_true rfl), (Nat.le_of_ble_eq_true rfl)⟩, w15, w16⟩ hK hN hP hD hS hA [5, 6] [0, 1, 2, 3, 4] [0, 1, 2, 3, 4, 5, 6] rfl rfl rfl rfl (by decide) rfl rfl rfl rfl rfl rfl hl.1 rfl (Nat.le_of_ble_eq_true rfl) rfl dX5_read_110 ⟨Nat.zero_le _, Nat.zero_le _⟩ (fun H locs hP hD hS => ?_)
            obtain ⟨g_13, hM⟩ := on_gdE hM
            refine va_iast hx hb hK hP hD hS 2 0 rfl rfl (on_ixE g_13) dX5_read_113 (fun H locs hP hD hS => ?_)
            have hP : va_P D vwCl [(h_t, .inr (5, [.ref h_t_now, .ref h_t_images, .ref h_t_pad, .ref h_t_net, .ref h_t_second, .ref h_t_renumbering, .ref h_t_table, .ref h_t_marks])), (h_t_now, .inr (3, [.int t_now_many, .ref h_t_now_numbers])), (h_t_now_numbers, .inl (cI, 3, .inl (upd t_now_numbers (Int32.toNatClampNeg v1) q_12))), (h_t_pad, .inr (1, [.int (0 : Int32), .ref h_t_pad_signs])), (h_t_pad_signs, .inl (cI, 35, .inl t_pad_signs)), (h_t_net, .inr (0, [.int q_8.1, .ref h_t_net_rows])), (h_t_net_rows, .inl (cI, 7, .inl q_10.2))] H := hP
            have hD : va_D A [(h_t, .inr (5, [.ref h_t_now, .ref h_t_images, .ref h_t_pad, .ref h_t_net, .ref h_t_second, .ref h_t_renumbering, .ref h_t_table, .ref h_t_marks])), (h_t_now, .inr (3, [.int t_now_many, .ref h_t_now_numbers])), (h_t_now_numbers, .inl (cI, 3, .inl (upd t_now_numbers (Int32.toNatClampNeg v1) q_12))), (h_t_pad, .inr (1, [.int (0 : Int32), .ref h_t_pad_signs])), (h_t_pad_signs, .inl (cI, 35, .inl t_pad_signs)), (h_t_net, .inr (0, [.int q_8.1, .ref h_t_net_rows])), (h_t_net_rows, .inl (cI, 7, .inl q_10.2))] := hD
            refine lv_aload_n hx hb dX5_read_114 rfl (lv_at hl 0 rfl) ?_
            refine va_get (D := D) (ci := 5) (v := .ref h_t_now) (C := RX5) (T := TX5) (N := 8) hx hb hts w2 hown hK hP 0 rfl rfl 0 (by decide) w7 (fun _ h9 => h9) rfl dX5_read_115 ?_
            refine va_getN (D := D) (ci := 3) (v := .ref h_t_now_numbers) (C := RX3) (T := TX3) (N := 2) hx hb hts w8 hown hK hP 1 rfl rfl 1 (by decide) (va_Nw.use rfl (hN _ (List.mem_of_getElem? (i := 1) rfl))) (fun _ h9 => h9) rfl dX5_read_118 ?_
            refine lv_iload_n hx hb dX5_read_121 rfl (lv_at hl 1 rfl) ?_
            obtain ⟨g_14, hM⟩ := on_gdE hM
            refine va_iald hx hb hK hP 2 0 rfl rfl (on_ixE g_14) dX5_read_122 ?_
            have hM := Option.some.inj hM
            subst hM
            rw [← hQ]
            exact on_iret hx hb hr hlk hP hD hS dX5_read_123
          · have hM := on_pos c_11 hM
            refine lv_bipush (v := -3) hx hb dX5_read_87 (by decide) ?_
            have hM := Option.some.inj hM
            subst hM
            rw [← hQ]
            exact on_iret hx hb hr hlk hP hD hS dX5_read_89
        · have hM := on_pos c_9 hM
          refine lv_aload_n hx hb dX5_read_59 rfl (lv_at hl 0 rfl) ?_
          refine va_get (D := D) (ci := 5) (v := .ref h_t_net) (C := RX5) (T := TX5) (N := 8) hx hb hts w2 hown hK hP 0 rfl rfl 3 (by decide) w6 (fun _ h9 => h9) rfl dX5_read_60 ?_
          refine lv_aload_n hx hb dX5_read_63 rfl (lv_at hl 0 rfl) ?_
          refine va_get (D := D) (ci := 5) (v := .ref h_t_pad) (C := RX5) (T := TX5) (N := 8) hx hb hts w2 hown hK hP 0 rfl rfl 2 (by decide) w1 (fun _ h9 => h9) rfl dX5_read_64 ?_
          obtain ⟨q_15, hq_15, hM⟩ := on_bind hM
          refine on_callVN (rest := []) (As := [.ref h_t_pad]) (st1 := []) (C := RX0) (ci := 0) (q0 := 5) (wc := [(h_t_net, .inr (0, [.int q_8.1, .ref h_t_net_rows])), (h_t_net_rows, .inl (cI, 7, .inl q_8.2)), (h_t_pad, .inr (1, [.int t_pad_size, .ref h_t_pad_signs])), (h_t_pad_signs, .inl (cI, 35, .inl t_pad_signs))]) (wr := [(h_t, .inr (5, [.ref h_t_now, .ref h_t_images, .ref h_t_pad, .ref h_t_net, .ref h_t_second, .ref h_t_renumbering, .ref h_t_table, .ref h_t_marks])), (h_t_now, .inr (3, [.int t_now_many, .ref h_t_now_numbers])), (h_t_now_numbers, .inl (cI, 3, .inl t_now_numbers))]) (wc' := [(h_t_net, .inr (0, [.int q_8.1, .ref h_t_net_rows])), (h_t_net_rows, .inl (cI, 7, .inl q_15)), (h_t_pad, .inr (1, [.int t_pad_size, .ref h_t_pad_signs])), (h_t_pad_signs, .inl (cI, 35, .inl t_pad_signs))]) (wf := [(h_t, .inr (5, [.ref h_t_now, .ref h_t_images, .ref h_t_pad, .ref h_t_net, .ref h_t_second, .ref h_t_renumbering, .ref h_t_table, .ref h_t_marks])), (h_t_now, .inr (3, [.int t_now_many, .ref h_t_now_numbers])), (h_t_now_numbers, .inl (cI, 3, .inl t_now_numbers)), (h_t_pad, .inr (1, [.int t_pad_size, .ref h_t_pad_signs])), (h_t_pad_signs, .inl (cI, 35, .inl t_pad_signs)), (h_t_net, .inr (0, [.int q_8.1, .ref h_t_net_rows])), (h_t_net_rows, .inl (cI, 7, .inl q_15))]) (rt := none) ⟨hx, hb, hml, hown, hts⟩ (k_X0_takePairs h_t_net h_t_net_rows h_t_pad h_t_pad_signs q_8.1 q_8.2 t_pad_size t_pad_signs q_15 hq_15) ⟨va_cnB 1 hts gX5_read_X0_takePairs_n109 rfl rfl rfl (hN _ (List.mem_of_getElem? (i := 23) rfl)) w9 hdX0_takePairs ⟨(Nat.le_of_ble_eq_true rfl), (Nat.le_of_ble_eq_true rfl)⟩, w17, w18⟩ hK hN hP hD hS hA [5, 6, 3, 4] [0, 1, 2] [0, 1, 2, 5, 6, 3, 4] rfl rfl rfl rfl (by decide) rfl rfl rfl rfl rfl rfl hl.1 rfl (Nat.le_of_ble_eq_true rfl) rfl dX5_read_67 ⟨Nat.zero_le _, Nat.zero_le _⟩ (fun H locs hP hD hS => ?_)
          refine lv_goto (tgt := 90) hx hb dX5_read_70 (by decide) ?_
          refine lv_aload_n hx hb dX5_read_90 rfl (lv_at hl 0 rfl) ?_
          refine va_get (D := D) (ci := 5) (v := .ref h_t_pad) (C := RX5) (T := TX5) (N := 8) hx hb hts w2 hown hK hP 0 rfl rfl 2 (by decide) w1 (fun _ h9 => h9) rfl dX5_read_91 ?_
          refine lv_iconst (v := 0) hx hb dX5_read_94 (by decide) ?_
          refine va_putN (D := D) (ci := 1) (v := .int (0 : Int32)) (ty := .int) (C := RX1) (T := TX1) (N := 2) hx hb hts w14 tyX1 tyX1_ok nmX1 hown hK hP hD hS 3 rfl rfl 0 (by decide) (va_Nw.use rfl (hN _ (List.mem_of_getElem? (i := 2) rfl))) (fun _ h9 => h9) rfl (by decide +kernel) rfl rfl (Nat.le_of_ble_eq_true rfl) dX5_read_95 (fun H locs hP hD hS => ?_)
          have hP : va_P D vwCl [(h_t, .inr (5, [.ref h_t_now, .ref h_t_images, .ref h_t_pad, .ref h_t_net, .ref h_t_second, .ref h_t_renumbering, .ref h_t_table, .ref h_t_marks])), (h_t_now, .inr (3, [.int t_now_many, .ref h_t_now_numbers])), (h_t_now_numbers, .inl (cI, 3, .inl t_now_numbers)), (h_t_pad, .inr (1, [.int (0 : Int32), .ref h_t_pad_signs])), (h_t_pad_signs, .inl (cI, 35, .inl t_pad_signs)), (h_t_net, .inr (0, [.int q_8.1, .ref h_t_net_rows])), (h_t_net_rows, .inl (cI, 7, .inl q_15))] H := hP
          have hD : va_D A [(h_t, .inr (5, [.ref h_t_now, .ref h_t_images, .ref h_t_pad, .ref h_t_net, .ref h_t_second, .ref h_t_renumbering, .ref h_t_table, .ref h_t_marks])), (h_t_now, .inr (3, [.int t_now_many, .ref h_t_now_numbers])), (h_t_now_numbers, .inl (cI, 3, .inl t_now_numbers)), (h_t_pad, .inr (1, [.int (0 : Int32), .ref h_t_pad_signs])), (h_t_pad_signs, .inl (cI, 35, .inl t_pad_signs)), (h_t_net, .inr (0, [.int q_8.1, .ref h_t_net_rows])), (h_t_net_rows, .inl (cI, 7, .inl q_15))] := hD
          refine lv_aload_n hx hb dX5_read_98 rfl (lv_at hl 0 rfl) ?_
          refine va_get (D := D) (ci := 5) (v := .ref h_t_now) (C := RX5) (T := TX5) (N := 8) hx hb hts w2 hown hK hP 0 rfl rfl 0 (by decide) w7 (fun _ h9 => h9) rfl dX5_read_99 ?_
          refine va_getN (D := D) (ci := 3) (v := .ref h_t_now_numbers) (C := RX3) (T := TX3) (N := 2) hx hb hts w8 hown hK hP 1 rfl rfl 1 (by decide) (va_Nw.use rfl (hN _ (List.mem_of_getElem? (i := 1) rfl))) (fun _ h9 => h9) rfl dX5_read_102 ?_
          refine lv_iload_n hx hb dX5_read_105 rfl (lv_at hl 1 rfl) ?_
          refine lv_aload_n hx hb dX5_read_106 rfl (lv_at hl 0 rfl) ?_
          refine va_get (D := D) (ci := 5) (v := .ref h_t_net) (C := RX5) (T := TX5) (N := 8) hx hb hts w2 hown hK hP 0 rfl rfl 3 (by decide) w6 (fun _ h9 => h9) rfl dX5_read_107 ?_
          obtain ⟨q_16, hq_16, hM⟩ := on_bind hM
          refine on_callVN (rest := [.int v1, .ref h_t_now_numbers]) (As := []) (st1 := [.int q_16, .int v1, .ref h_t_now_numbers]) (C := RX0) (ci := 0) (q0 := 5) (wc := [(h_t_net, .inr (0, [.int q_8.1, .ref h_t_net_rows])), (h_t_net_rows, .inl (cI, 7, .inl q_15))]) (wr := [(h_t, .inr (5, [.ref h_t_now, .ref h_t_images, .ref h_t_pad, .ref h_t_net, .ref h_t_second, .ref h_t_renumbering, .ref h_t_table, .ref h_t_marks])), (h_t_now, .inr (3, [.int t_now_many, .ref h_t_now_numbers])), (h_t_now_numbers, .inl (cI, 3, .inl t_now_numbers)), (h_t_pad, .inr (1, [.int (0 : Int32), .ref h_t_pad_signs])), (h_t_pad_signs, .inl (cI, 35, .inl t_pad_signs))]) (wc' := [(h_t_net, .inr (0, [.int q_8.1, .ref h_t_net_rows])), (h_t_net_rows, .inl (cI, 7, .inl q_15))]) (wf := [(h_t, .inr (5, [.ref h_t_now, .ref h_t_images, .ref h_t_pad, .ref h_t_net, .ref h_t_second, .ref h_t_renumbering, .ref h_t_table, .ref h_t_marks])), (h_t_now, .inr (3, [.int t_now_many, .ref h_t_now_numbers])), (h_t_now_numbers, .inl (cI, 3, .inl t_now_numbers)), (h_t_pad, .inr (1, [.int (0 : Int32), .ref h_t_pad_signs])), (h_t_pad_signs, .inl (cI, 35, .inl t_pad_signs)), (h_t_net, .inr (0, [.int q_8.1, .ref h_t_net_rows])), (h_t_net_rows, .inl (cI, 7, .inl q_15))]) (rt := (some (.int q_16))) ⟨hx, hb, hml, hown, hts⟩ (k_X0_number h_t_net h_t_net_rows q_8.1 q_15 q_16 hq_16) ⟨va_cnB 0 hts gX5_read_X0_number_n85 rfl rfl rfl (hN _ (List.mem_of_getElem? (i := 19) rfl)) w9 hdX0_number ⟨(Nat.le_of_ble_eq_true rfl), (Nat.le_of_ble_eq_true rfl)⟩, w15, w16⟩ hK hN hP hD hS hA [5, 6] [0, 1, 2, 3, 4] [0, 1, 2, 3, 4, 5, 6] rfl rfl rfl rfl (by decide) rfl rfl rfl rfl rfl rfl hl.1 rfl (Nat.le_of_ble_eq_true rfl) rfl dX5_read_110 ⟨Nat.zero_le _, Nat.zero_le _⟩ (fun H locs hP hD hS => ?_)
          obtain ⟨g_17, hM⟩ := on_gdE hM
          refine va_iast hx hb hK hP hD hS 2 0 rfl rfl (on_ixE g_17) dX5_read_113 (fun H locs hP hD hS => ?_)
          have hP : va_P D vwCl [(h_t, .inr (5, [.ref h_t_now, .ref h_t_images, .ref h_t_pad, .ref h_t_net, .ref h_t_second, .ref h_t_renumbering, .ref h_t_table, .ref h_t_marks])), (h_t_now, .inr (3, [.int t_now_many, .ref h_t_now_numbers])), (h_t_now_numbers, .inl (cI, 3, .inl (upd t_now_numbers (Int32.toNatClampNeg v1) q_16))), (h_t_pad, .inr (1, [.int (0 : Int32), .ref h_t_pad_signs])), (h_t_pad_signs, .inl (cI, 35, .inl t_pad_signs)), (h_t_net, .inr (0, [.int q_8.1, .ref h_t_net_rows])), (h_t_net_rows, .inl (cI, 7, .inl q_15))] H := hP
          have hD : va_D A [(h_t, .inr (5, [.ref h_t_now, .ref h_t_images, .ref h_t_pad, .ref h_t_net, .ref h_t_second, .ref h_t_renumbering, .ref h_t_table, .ref h_t_marks])), (h_t_now, .inr (3, [.int t_now_many, .ref h_t_now_numbers])), (h_t_now_numbers, .inl (cI, 3, .inl (upd t_now_numbers (Int32.toNatClampNeg v1) q_16))), (h_t_pad, .inr (1, [.int (0 : Int32), .ref h_t_pad_signs])), (h_t_pad_signs, .inl (cI, 35, .inl t_pad_signs)), (h_t_net, .inr (0, [.int q_8.1, .ref h_t_net_rows])), (h_t_net_rows, .inl (cI, 7, .inl q_15))] := hD
          refine lv_aload_n hx hb dX5_read_114 rfl (lv_at hl 0 rfl) ?_
          refine va_get (D := D) (ci := 5) (v := .ref h_t_now) (C := RX5) (T := TX5) (N := 8) hx hb hts w2 hown hK hP 0 rfl rfl 0 (by decide) w7 (fun _ h9 => h9) rfl dX5_read_115 ?_
          refine va_getN (D := D) (ci := 3) (v := .ref h_t_now_numbers) (C := RX3) (T := TX3) (N := 2) hx hb hts w8 hown hK hP 1 rfl rfl 1 (by decide) (va_Nw.use rfl (hN _ (List.mem_of_getElem? (i := 1) rfl))) (fun _ h9 => h9) rfl dX5_read_118 ?_
          refine lv_iload_n hx hb dX5_read_121 rfl (lv_at hl 1 rfl) ?_
          obtain ⟨g_18, hM⟩ := on_gdE hM
          refine va_iald hx hb hK hP 2 0 rfl rfl (on_ixE g_18) dX5_read_122 ?_
          have hM := Option.some.inj hM
          subst hM
          rw [← hQ]
          exact on_iret hx hb hr hlk hP hD hS dX5_read_123
      · have hM := on_neg c_7 hM
        refine lv_bipush (v := -7) hx hb dX5_read_38 (by decide) ?_
        have hM := Option.some.inj hM
        subst hM
        rw [← hQ]
        exact on_iret hx hb hr hlk hP hD hS dX5_read_40
    · have hM := on_pos c_4 hM
      refine lv_bipush (v := -2) hx hb dX5_read_18 (by decide) ?_
      have hM := Option.some.inj hM
      subst hM
      rw [← hQ]
      exact on_iret hx hb hr hlk hP hD hS dX5_read_20
  · have hM := on_pos c_2 hM
    refine lv_iconst (v := -1) hx hb dX5_read_7 (by decide) ?_
    have hM := Option.some.inj hM
    subst hM
    rw [← hQ]
    exact on_iret hx hb hr hlk hP hD hS dX5_read_8
abbrev rm_X0_allNodes : Room := { frames := 0, cells := 0, slots := 0, locals := 0 }
set_option maxHeartbeats 4000000 in
set_option maxRecDepth 100000 in
theorem k_X0_allNodes {l : Launch} {D : va_G} {cI cJ cZ cS cA : ClassId} (h_t : Nat) (h_t_rows : Nat) (t_many : Int32)  (out : Int32) (hM : M_X0_allNodes t_many = some out) : on_Con l yX0_allNodes wsX0_allNodes rm_X0_allNodes [.ref h_t] D (on_T cI cJ cZ cS cA) [(h_t, .inr (0, [.int t_many, .ref h_t_rows]))] (some (.int out)) [(h_t, .inr (0, [.int t_many, .ref h_t_rows]))] := by
  unfold M_X0_allNodes at hM
  refine on_enter (cc := cX0_allNodes) (nL := 1) (rt := (some .int)) (own := RX0) (by decide +kernel) rfl rfl (Nat.le_of_ble_eq_true rfl) ?_
  intro p e s m below meth c A ls hx hb hml hr hlk hts hown hA hK hN H locs hP hD hS hl
  have hl : lv_has ls 1 [(0, .ref h_t)] := hl
  generalize hQ : MQ below (on_Q D (some (.int out)) [(h_t, .inr (0, [.int t_many, .ref h_t_rows]))] A) _ s 0 0 A = Q
  generalize hAr : List.toArray ([.ref h_t] : List Value) = args at hts hQ ⊢
  have w1 := hts (.fieldLink RX0 9 "OddNets$Net" "many" "I") (by decide +kernel)
  have w2 : ∀ w ∈ wsX00, w ∈ wsX0_allNodes := by decide +kernel
  refine lv_iconst (v := 1) hx hb dX0_allNodes_0 (by decide) ?_
  refine lv_aload_n hx hb dX0_allNodes_1 rfl (lv_at hl 0 rfl) ?_
  refine va_get (D := D) (ci := 0) (v := .int t_many) (C := RX0) (T := TX0) (N := 2) hx hb hts w2 hown hK hP 0 rfl rfl 0 (by decide) w1 (fun _ h9 => h9) rfl dX0_allNodes_2 ?_
  refine lv_ishl hx hb dX0_allNodes_5 ?_
  refine lv_iconst (v := 1) hx hb dX0_allNodes_6 (by decide) ?_
  refine lv_isub hx hb dX0_allNodes_7 ?_
  have hM := Option.some.inj hM
  subst hM
  rw [← hQ]
  exact on_iret hx hb hr hlk hP hD hS dX0_allNodes_8
