abbrev rm_X5_image : Room := { frames := 2, cells := 0, slots := 0, locals := 85 }
set_option maxHeartbeats 4000000 in
set_option maxRecDepth 100000 in
theorem k_X5_image {l : Launch} {D : va_G} {cI cJ cZ cS cA : ClassId} (h_t : Nat) (h_t_now : Nat) (h_t_images : Nat) (h_t_pad : Nat) (h_t_net : Nat) (h_t_second : Nat) (h_t_renumbering : Nat) (h_t_table : Nat) (h_t_marks : Nat) (h_t_now_numbers : Nat) (h_t_images_0 : Nat) (h_t_images_1 : Nat) (h_t_images_0_numbers : Nat) (h_t_images_1_numbers : Nat) (t_now_many : Int32) (t_now_numbers : Nat → Int32) (t_images_0_many : Int32) (t_images_0_numbers : Nat → Int32) (t_images_1_many : Int32) (t_images_1_numbers : Nat → Int32) (v1 : Int32) (out : Int32 × Int32 × (Nat → Int32) × Int32 × (Nat → Int32)) (hM : M_X5_image v1 t_now_many t_now_numbers t_images_0_many t_images_0_numbers t_images_1_many t_images_1_numbers = some out) : on_Con l yX5_image wsX5_image rm_X5_image [.ref h_t, .int v1] D (on_T cI cJ cZ cS cA) [(h_t, .inr (5, [.ref h_t_now, .ref h_t_images, .ref h_t_pad, .ref h_t_net, .ref h_t_second, .ref h_t_renumbering, .ref h_t_table, .ref h_t_marks])), (h_t_now, .inr (3, [.int t_now_many, .ref h_t_now_numbers])), (h_t_now_numbers, .inl (cI, 3, .inl t_now_numbers)), (h_t_images, .inl (cS, 2, .inr (.inr (.inr (.inr (on_im h_t_images_0 h_t_images_1)))))), (h_t_images_0, .inr (3, [.int t_images_0_many, .ref h_t_images_0_numbers])), (h_t_images_0_numbers, .inl (cI, 3, .inl t_images_0_numbers)), (h_t_images_1, .inr (3, [.int t_images_1_many, .ref h_t_images_1_numbers])), (h_t_images_1_numbers, .inl (cI, 3, .inl t_images_1_numbers))] (some (.int out.1)) [(h_t, .inr (5, [.ref h_t_now, .ref h_t_images, .ref h_t_pad, .ref h_t_net, .ref h_t_second, .ref h_t_renumbering, .ref h_t_table, .ref h_t_marks])), (h_t_now, .inr (3, [.int t_now_many, .ref h_t_now_numbers])), (h_t_now_numbers, .inl (cI, 3, .inl t_now_numbers)), (h_t_images, .inl (cS, 2, .inr (.inr (.inr (.inr (on_im h_t_images_0 h_t_images_1)))))), (h_t_images_0, .inr (3, [.int out.2.1, .ref h_t_images_0_numbers])), (h_t_images_0_numbers, .inl (cI, 3, .inl out.2.2.1)), (h_t_images_1, .inr (3, [.int out.2.2.2.1, .ref h_t_images_1_numbers])), (h_t_images_1_numbers, .inl (cI, 3, .inl out.2.2.2.2))] := by
  unfold M_X5_image at hM
  refine on_enter (cc := cX5_image) (nL := 2) (rt := (some .int)) (own := RX5) (by decide +kernel) rfl rfl (Nat.le_of_ble_eq_true rfl) ?_
  intro p e s m below meth c A ls hx hb hml hr hlk hts hown hA hK hN H locs hP hD hS hl
  have hl : lv_has ls 2 [(0, .ref h_t), (1, .int v1)] := hl
  generalize hQ : MQ below (on_Q D (some (.int out.1)) [(h_t, .inr (5, [.ref h_t_now, .ref h_t_images, .ref h_t_pad, .ref h_t_net, .ref h_t_second, .ref h_t_renumbering, .ref h_t_table, .ref h_t_marks])), (h_t_now, .inr (3, [.int t_now_many, .ref h_t_now_numbers])), (h_t_now_numbers, .inl (cI, 3, .inl t_now_numbers)), (h_t_images, .inl (cS, 2, .inr (.inr (.inr (.inr (on_im h_t_images_0 h_t_images_1)))))), (h_t_images_0, .inr (3, [.int out.2.1, .ref h_t_images_0_numbers])), (h_t_images_0_numbers, .inl (cI, 3, .inl out.2.2.1)), (h_t_images_1, .inr (3, [.int out.2.2.2.1, .ref h_t_images_1_numbers])), (h_t_images_1_numbers, .inl (cI, 3, .inl out.2.2.2.2))] A) _ s 0 0 A = Q
  generalize hAr : List.toArray ([.ref h_t, .int v1] : List Value) = args at hts hQ ⊢
  have w1 := hts (.fieldLink RX5 16 "OddNets" "images" "[LOddNets$Shelf;") (by decide +kernel)
  have w2 : ∀ w ∈ wsX50, w ∈ wsX5_image := by decide +kernel
  have w3 := hts (.fieldLink RX5 10 "OddNets" "now" "LOddNets$Shelf;") (by decide +kernel)
  have w4 := hts (.initialized RX3) (by decide +kernel)
  have w5 := hts (.instanceMethod yX3_copy) (by decide +kernel)
  have w6 := hts (.selects RX3 yX3_copy yX3_copy) (by decide +kernel)
  refine lv_iload_n hx hb dX5_image_0 rfl (lv_at hl 1 rfl) ?_
  refine lv_iconst (v := 0) hx hb dX5_image_1 (by decide) ?_
  refine lv_iconst (v := 1) hx hb dX5_image_2 (by decide) ?_
  obtain ⟨q_1, hq_1, hM⟩ := on_bind hM
  refine on_callS0 (rest := []) (As := [.int v1, .int (0 : Int32), .int (1 : Int32)]) (st1 := [.int q_1]) ⟨hx, hb, hml, hown, hts⟩ (k_X5_within v1 (0 : Int32) (1 : Int32) q_1 hq_1) (va_cwS 3 hts gX5_image_X5_within rfl rfl rfl hdX5_within ⟨(Nat.le_of_ble_eq_true rfl), (Nat.le_of_ble_eq_true rfl)⟩) hK hN hP hD hS hA rfl hl.1 rfl (Nat.le_of_ble_eq_true rfl) rfl dX5_image_3 ⟨Nat.zero_le _, Nat.zero_le _⟩ (fun H locs hP hS => ?_)
  refine lv_if_ne (tgt := 12) hx hb dX5_image_6 (by decide) (fun c_2 => ?_) (fun c_2 => ?_)
  · have hM := on_neg c_2 hM
    refine lv_aload_n hx hb dX5_image_12 rfl (lv_at hl 0 rfl) ?_
    refine va_get (D := D) (ci := 5) (v := .ref h_t_images) (C := RX5) (T := TX5) (N := 8) hx hb hts w2 hown hK hP 0 rfl rfl 1 (by decide) w1 (fun _ h9 => h9) rfl dX5_image_13 ?_
    refine lv_iload_n hx hb dX5_image_16 rfl (lv_at hl 1 rfl) ?_
    obtain ⟨g_3, hM⟩ := on_gdE hM
    refine va_aldq hx hb hK hP 3 3 rfl rfl (on_ixE g_3) dX5_image_17 ?_
    by_cases c_4 : v1 = 0
    · rw [on_im0 c_4]
      have hM := on_pos c_4 hM
      refine lv_aload_n hx hb dX5_image_18 rfl (lv_at hl 0 rfl) ?_
      refine va_get (D := D) (ci := 5) (v := .ref h_t_now) (C := RX5) (T := TX5) (N := 8) hx hb hts w2 hown hK hP 0 rfl rfl 0 (by decide) w3 (fun _ h9 => h9) rfl dX5_image_19 ?_
      obtain ⟨q_5, hq_5, hM⟩ := on_bind hM
      refine on_callVN (rest := []) (As := [.ref h_t_now]) (st1 := []) (C := RX3) (ci := 3) (q0 := 4) (wc := [(h_t_images_0, .inr (3, [.int t_images_0_many, .ref h_t_images_0_numbers])), (h_t_images_0_numbers, .inl (cI, 3, .inl t_images_0_numbers)), (h_t_now, .inr (3, [.int t_now_many, .ref h_t_now_numbers])), (h_t_now_numbers, .inl (cI, 3, .inl t_now_numbers))]) (wr := [(h_t, .inr (5, [.ref h_t_now, .ref h_t_images, .ref h_t_pad, .ref h_t_net, .ref h_t_second, .ref h_t_renumbering, .ref h_t_table, .ref h_t_marks])), (h_t_images, .inl (cS, 2, .inr (.inr (.inr (.inr (on_im h_t_images_0 h_t_images_1)))))), (h_t_images_1, .inr (3, [.int t_images_1_many, .ref h_t_images_1_numbers])), (h_t_images_1_numbers, .inl (cI, 3, .inl t_images_1_numbers))]) (wc' := [(h_t_images_0, .inr (3, [.int q_5.1, .ref h_t_images_0_numbers])), (h_t_images_0_numbers, .inl (cI, 3, .inl q_5.2)), (h_t_now, .inr (3, [.int t_now_many, .ref h_t_now_numbers])), (h_t_now_numbers, .inl (cI, 3, .inl t_now_numbers))]) (wf := [(h_t, .inr (5, [.ref h_t_now, .ref h_t_images, .ref h_t_pad, .ref h_t_net, .ref h_t_second, .ref h_t_renumbering, .ref h_t_table, .ref h_t_marks])), (h_t_now, .inr (3, [.int t_now_many, .ref h_t_now_numbers])), (h_t_now_numbers, .inl (cI, 3, .inl t_now_numbers)), (h_t_images, .inl (cS, 2, .inr (.inr (.inr (.inr (on_im h_t_images_0 h_t_images_1)))))), (h_t_images_0, .inr (3, [.int q_5.1, .ref h_t_images_0_numbers])), (h_t_images_0_numbers, .inl (cI, 3, .inl q_5.2)), (h_t_images_1, .inr (3, [.int t_images_1_many, .ref h_t_images_1_numbers])), (h_t_images_1_numbers, .inl (cI, 3, .inl t_images_1_numbers))]) (rt := none) ⟨hx, hb, hml, hown, hts⟩ (k_X3_copy h_t_images_0 h_t_images_0_numbers h_t_now h_t_now_numbers t_images_0_many t_images_0_numbers t_now_many t_now_numbers q_5 hq_5) ⟨va_cnB 1 hts gX5_image_X3_copy_n200 rfl rfl rfl (hN _ (List.mem_of_getElem? (i := 54) rfl)) w4 hdX3_copy ⟨(Nat.le_of_ble_eq_true rfl), (Nat.le_of_ble_eq_true rfl)⟩, w5, w6⟩ hK hN hP hD hS hA [4, 5, 1, 2] [0, 3, 6, 7] [0, 6, 7, 1, 4, 5, 2, 3] rfl rfl rfl rfl (by decide) rfl rfl rfl rfl rfl rfl hl.1 rfl (Nat.le_of_ble_eq_true rfl) rfl dX5_image_22 ⟨Nat.zero_le _, Nat.zero_le _⟩ (fun H locs hP hD hS => ?_)
      refine lv_iconst (v := 1) hx hb dX5_image_25 (by decide) ?_
      have hM := Option.some.inj hM
      subst hM
      rw [← hQ]
      exact on_iret hx hb hr hlk hP hD hS dX5_image_26
    · rw [on_im1 g_3 c_4]
      have hM := on_neg c_4 hM
      refine lv_aload_n hx hb dX5_image_18 rfl (lv_at hl 0 rfl) ?_
      refine va_get (D := D) (ci := 5) (v := .ref h_t_now) (C := RX5) (T := TX5) (N := 8) hx hb hts w2 hown hK hP 0 rfl rfl 0 (by decide) w3 (fun _ h9 => h9) rfl dX5_image_19 ?_
      obtain ⟨q_6, hq_6, hM⟩ := on_bind hM
      refine on_callVN (rest := []) (As := [.ref h_t_now]) (st1 := []) (C := RX3) (ci := 3) (q0 := 6) (wc := [(h_t_images_1, .inr (3, [.int t_images_1_many, .ref h_t_images_1_numbers])), (h_t_images_1_numbers, .inl (cI, 3, .inl t_images_1_numbers)), (h_t_now, .inr (3, [.int t_now_many, .ref h_t_now_numbers])), (h_t_now_numbers, .inl (cI, 3, .inl t_now_numbers))]) (wr := [(h_t, .inr (5, [.ref h_t_now, .ref h_t_images, .ref h_t_pad, .ref h_t_net, .ref h_t_second, .ref h_t_renumbering, .ref h_t_table, .ref h_t_marks])), (h_t_images, .inl (cS, 2, .inr (.inr (.inr (.inr (on_im h_t_images_0 h_t_images_1)))))), (h_t_images_0, .inr (3, [.int t_images_0_many, .ref h_t_images_0_numbers])), (h_t_images_0_numbers, .inl (cI, 3, .inl t_images_0_numbers))]) (wc' := [(h_t_images_1, .inr (3, [.int q_6.1, .ref h_t_images_1_numbers])), (h_t_images_1_numbers, .inl (cI, 3, .inl q_6.2)), (h_t_now, .inr (3, [.int t_now_many, .ref h_t_now_numbers])), (h_t_now_numbers, .inl (cI, 3, .inl t_now_numbers))]) (wf := [(h_t, .inr (5, [.ref h_t_now, .ref h_t_images, .ref h_t_pad, .ref h_t_net, .ref h_t_second, .ref h_t_renumbering, .ref h_t_table, .ref h_t_marks])), (h_t_now, .inr (3, [.int t_now_many, .ref h_t_now_numbers])), (h_t_now_numbers, .inl (cI, 3, .inl t_now_numbers)), (h_t_images, .inl (cS, 2, .inr (.inr (.inr (.inr (on_im h_t_images_0 h_t_images_1)))))), (h_t_images_0, .inr (3, [.int t_images_0_many, .ref h_t_images_0_numbers])), (h_t_images_0_numbers, .inl (cI, 3, .inl t_images_0_numbers)), (h_t_images_1, .inr (3, [.int q_6.1, .ref h_t_images_1_numbers])), (h_t_images_1_numbers, .inl (cI, 3, .inl q_6.2))]) (rt := none) ⟨hx, hb, hml, hown, hts⟩ (k_X3_copy h_t_images_1 h_t_images_1_numbers h_t_now h_t_now_numbers t_images_1_many t_images_1_numbers t_now_many t_now_numbers q_6 hq_6) ⟨va_cnB 1 hts gX5_image_X3_copy_n200 rfl rfl rfl (hN _ (List.mem_of_getElem? (i := 54) rfl)) w4 hdX3_copy ⟨(Nat.le_of_ble_eq_true rfl), (Nat.le_of_ble_eq_true rfl)⟩, w5, w6⟩ hK hN hP hD hS hA [6, 7, 1, 2] [0, 3, 4, 5] [0, 6, 7, 1, 2, 3, 4, 5] rfl rfl rfl rfl (by decide) rfl rfl rfl rfl rfl rfl hl.1 rfl (Nat.le_of_ble_eq_true rfl) rfl dX5_image_22 ⟨Nat.zero_le _, Nat.zero_le _⟩ (fun H locs hP hD hS => ?_)
      refine lv_iconst (v := 1) hx hb dX5_image_25 (by decide) ?_
      have hM := Option.some.inj hM
      subst hM
      rw [← hQ]
      exact on_iret hx hb hr hlk hP hD hS dX5_image_26
  · have hM := on_pos c_2 hM
    refine lv_bipush (v := -2) hx hb dX5_image_9 (by decide) ?_
    have hM := Option.some.inj hM
    subst hM
    rw [← hQ]
    exact on_iret hx hb hr hlk hP hD hS dX5_image_11
abbrev rm_X3_isUnused : Room := { frames := 0, cells := 0, slots := 0, locals := 0 }
set_option maxHeartbeats 4000000 in
set_option maxRecDepth 100000 in
theorem k_X3_isUnused {l : Launch} {D : va_G} {cI cJ cZ cS cA : ClassId} (h_t : Nat) (h_t_numbers : Nat) (t_many : Int32)  (out : Int32) (hM : M_X3_isUnused t_many = some out) : on_Con l yX3_isUnused wsX3_isUnused rm_X3_isUnused [.ref h_t] D (on_T cI cJ cZ cS cA) [(h_t, .inr (3, [.int t_many, .ref h_t_numbers]))] (some (.int out)) [(h_t, .inr (3, [.int t_many, .ref h_t_numbers]))] := by
  unfold M_X3_isUnused at hM
  refine on_enter (cc := cX3_isUnused) (nL := 1) (rt := (some .boolean)) (own := RX3) (by decide +kernel) rfl rfl (Nat.le_of_ble_eq_true rfl) ?_
  intro p e s m below meth c A ls hx hb hml hr hlk hts hown hA hK hN H locs hP hD hS hl
  have hl : lv_has ls 1 [(0, .ref h_t)] := hl
  generalize hQ : MQ below (on_Q D (some (.int out)) [(h_t, .inr (3, [.int t_many, .ref h_t_numbers]))] A) _ s 0 0 A = Q
  generalize hAr : List.toArray ([.ref h_t] : List Value) = args at hts hQ ⊢
  have w1 := hts (.fieldLink RX3 9 "OddNets$Shelf" "many" "I") (by decide +kernel)
  have w2 : ∀ w ∈ wsX30, w ∈ wsX3_isUnused := by decide +kernel
  refine lv_aload_n hx hb dX3_isUnused_0 rfl (lv_at hl 0 rfl) ?_
  refine va_get (D := D) (ci := 3) (v := .int t_many) (C := RX3) (T := TX3) (N := 2) hx hb hts w2 hown hK hP 0 rfl rfl 0 (by decide) w1 (fun _ h9 => h9) rfl dX3_isUnused_1 ?_
  refine lv_if_ne (tgt := 11) hx hb dX3_isUnused_4 (by decide) (fun c_1 => ?_) (fun c_1 => ?_)
  · have hM := on_neg c_1 hM
    refine lv_iconst (v := 0) hx hb dX3_isUnused_11 (by decide) ?_
    have hM := Option.some.inj hM
    subst hM
    rw [← hQ]
    exact on_zret hx hb hr hlk hP hD hS rfl dX3_isUnused_12
  · have hM := on_pos c_1 hM
    refine lv_iconst (v := 1) hx hb dX3_isUnused_7 (by decide) ?_
    refine lv_goto (tgt := 12) hx hb dX3_isUnused_8 (by decide) ?_
    have hM := Option.some.inj hM
    subst hM
    rw [← hQ]
    exact on_zret hx hb hr hlk hP hD hS rfl dX3_isUnused_12
abbrev rm_X5_restore : Room := { frames := 2, cells := 0, slots := 0, locals := 85 }
set_option maxHeartbeats 4000000 in
set_option maxRecDepth 100000 in
theorem k_X5_restore {l : Launch} {D : va_G} {cI cJ cZ cS cA : ClassId} (h_t : Nat) (h_t_now : Nat) (h_t_images : Nat) (h_t_pad : Nat) (h_t_net : Nat) (h_t_second : Nat) (h_t_renumbering : Nat) (h_t_table : Nat) (h_t_marks : Nat) (h_t_now_numbers : Nat) (h_t_images_0 : Nat) (h_t_images_1 : Nat) (h_t_images_0_numbers : Nat) (h_t_images_1_numbers : Nat) (t_now_many : Int32) (t_now_numbers : Nat → Int32) (t_images_0_many : Int32) (t_images_0_numbers : Nat → Int32) (t_images_1_many : Int32) (t_images_1_numbers : Nat → Int32) (v1 : Int32) (out : Int32 × Int32 × (Nat → Int32)) (hM : M_X5_restore v1 t_now_many t_now_numbers t_images_0_many t_images_0_numbers t_images_1_many t_images_1_numbers = some out) : on_Con l yX5_restore wsX5_restore rm_X5_restore [.ref h_t, .int v1] D (on_T cI cJ cZ cS cA) [(h_t, .inr (5, [.ref h_t_now, .ref h_t_images, .ref h_t_pad, .ref h_t_net, .ref h_t_second, .ref h_t_renumbering, .ref h_t_table, .ref h_t_marks])), (h_t_now, .inr (3, [.int t_now_many, .ref h_t_now_numbers])), (h_t_now_numbers, .inl (cI, 3, .inl t_now_numbers)), (h_t_images, .inl (cS, 2, .inr (.inr (.inr (.inr (on_im h_t_images_0 h_t_images_1)))))), (h_t_images_0, .inr (3, [.int t_images_0_many, .ref h_t_images_0_numbers])), (h_t_images_0_numbers, .inl (cI, 3, .inl t_images_0_numbers)), (h_t_images_1, .inr (3, [.int t_images_1_many, .ref h_t_images_1_numbers])), (h_t_images_1_numbers, .inl (cI, 3, .inl t_images_1_numbers))] (some (.int out.1)) [(h_t, .inr (5, [.ref h_t_now, .ref h_t_images, .ref h_t_pad, .ref h_t_net, .ref h_t_second, .ref h_t_renumbering, .ref h_t_table, .ref h_t_marks])), (h_t_now, .inr (3, [.int out.2.1, .ref h_t_now_numbers])), (h_t_now_numbers, .inl (cI, 3, .inl out.2.2)), (h_t_images, .inl (cS, 2, .inr (.inr (.inr (.inr (on_im h_t_images_0 h_t_images_1)))))), (h_t_images_0, .inr (3, [.int t_images_0_many, .ref h_t_images_0_numbers])), (h_t_images_0_numbers, .inl (cI, 3, .inl t_images_0_numbers)), (h_t_images_1, .inr (3, [.int t_images_1_many, .ref h_t_images_1_numbers])), (h_t_images_1_numbers, .inl (cI, 3, .inl t_images_1_numbers))] := by
  unfold M_X5_restore at hM
  refine on_enter (cc := cX5_restore) (nL := 2) (rt := (some .int)) (own := RX5) (by decide +kernel) rfl rfl (Nat.le_of_ble_eq_true rfl) ?_
  intro p e s m below meth c A ls hx hb hml hr hlk hts hown hA hK hN H locs hP hD hS hl
  have hl : lv_has ls 2 [(0, .ref h_t), (1, .int v1)] := hl
  generalize hQ : MQ below (on_Q D (some (.int out.1)) [(h_t, .inr (5, [.ref h_t_now, .ref h_t_images, .ref h_t_pad, .ref h_t_net, .ref h_t_second, .ref h_t_renumbering, .ref h_t_table, .ref h_t_marks])), (h_t_now, .inr (3, [.int out.2.1, .ref h_t_now_numbers])), (h_t_now_numbers, .inl (cI, 3, .inl out.2.2)), (h_t_images, .inl (cS, 2, .inr (.inr (.inr (.inr (on_im h_t_images_0 h_t_images_1)))))), (h_t_images_0, .inr (3, [.int t_images_0_many, .ref h_t_images_0_numbers])), (h_t_images_0_numbers, .inl (cI, 3, .inl t_images_0_numbers)), (h_t_images_1, .inr (3, [.int t_images_1_many, .ref h_t_images_1_numbers])), (h_t_images_1_numbers, .inl (cI, 3, .inl t_images_1_numbers))] A) _ s 0 0 A = Q
  generalize hAr : List.toArray ([.ref h_t, .int v1] : List Value) = args at hts hQ ⊢
  have w1 := hts (.fieldLink RX5 16 "OddNets" "images" "[LOddNets$Shelf;") (by decide +kernel)
  have w2 : ∀ w ∈ wsX50, w ∈ wsX5_restore := by decide +kernel
  have w3 := hts (.initialized RX3) (by decide +kernel)
  have w4 := hts (.instanceMethod yX3_isUnused) (by decide +kernel)
  have w5 := hts (.selects RX3 yX3_isUnused yX3_isUnused) (by decide +kernel)
  have w6 := hts (.fieldLink RX5 10 "OddNets" "now" "LOddNets$Shelf;") (by decide +kernel)
  have w7 := hts (.instanceMethod yX3_copy) (by decide +kernel)
  have w8 := hts (.selects RX3 yX3_copy yX3_copy) (by decide +kernel)
  refine lv_iload_n hx hb dX5_restore_0 rfl (lv_at hl 1 rfl) ?_
  refine lv_iconst (v := 0) hx hb dX5_restore_1 (by decide) ?_
  refine lv_iconst (v := 1) hx hb dX5_restore_2 (by decide) ?_
  obtain ⟨q_1, hq_1, hM⟩ := on_bind hM
  refine on_callS0 (rest := []) (As := [.int v1, .int (0 : Int32), .int (1 : Int32)]) (st1 := [.int q_1]) ⟨hx, hb, hml, hown, hts⟩ (k_X5_within v1 (0 : Int32) (1 : Int32) q_1 hq_1) (va_cwS 3 hts gX5_restore_X5_within rfl rfl rfl hdX5_within ⟨(Nat.le_of_ble_eq_true rfl), (Nat.le_of_ble_eq_true rfl)⟩) hK hN hP hD hS hA rfl hl.1 rfl (Nat.le_of_ble_eq_true rfl) rfl dX5_restore_3 ⟨Nat.zero_le _, Nat.zero_le _⟩ (fun H locs hP hS => ?_)
  refine lv_if_ne (tgt := 12) hx hb dX5_restore_6 (by decide) (fun c_2 => ?_) (fun c_2 => ?_)
  · have hM := on_neg c_2 hM
    refine lv_aload_n hx hb dX5_restore_12 rfl (lv_at hl 0 rfl) ?_
    refine va_get (D := D) (ci := 5) (v := .ref h_t_images) (C := RX5) (T := TX5) (N := 8) hx hb hts w2 hown hK hP 0 rfl rfl 1 (by decide) w1 (fun _ h9 => h9) rfl dX5_restore_13 ?_
    refine lv_iload_n hx hb dX5_restore_16 rfl (lv_at hl 1 rfl) ?_
    obtain ⟨g_3, hM⟩ := on_gdE hM
    refine va_aldq hx hb hK hP 3 3 rfl rfl (on_ixE g_3) dX5_restore_17 ?_
    by_cases c_4 : v1 = 0
    · rw [on_im0 c_4]
      have hM := on_pos c_4 hM
      obtain ⟨q_5, hq_5, hM⟩ := on_bind hM
      refine on_callVN (rest := []) (As := []) (st1 := [.int q_5]) (C := RX3) (ci := 3) (q0 := 4) (wc := [(h_t_images_0, .inr (3, [.int t_images_0_many, .ref h_t_images_0_numbers]))]) (wr := [(h_t, .inr (5, [.ref h_t_now, .ref h_t_images, .ref h_t_pad, .ref h_t_net, .ref h_t_second, .ref h_t_renumbering, .ref h_t_table, .ref h_t_marks])), (h_t_now, .inr (3, [.int t_now_many, .ref h_t_now_numbers])), (h_t_now_numbers, .inl (cI, 3, .inl t_now_numbers)), (h_t_images, .inl (cS, 2, .inr (.inr (.inr (.inr (on_im h_t_images_0 h_t_images_1)))))), (h_t_images_0_numbers, .inl (cI, 3, .inl t_images_0_numbers)), (h_t_images_1, .inr (3, [.int t_images_1_many, .ref h_t_images_1_numbers])), (h_t_images_1_numbers, .inl (cI, 3, .inl t_images_1_numbers))]) (wc' := [(h_t_images_0, .inr (3, [.int t_images_0_many, .ref h_t_images_0_numbers]))]) (wf := [(h_t, .inr (5, [.ref h_t_now, .ref h_t_images, .ref h_t_pad, .ref h_t_net, .ref h_t_second, .ref h_t_renumbering, .ref h_t_table, .ref h_t_marks])), (h_t_now, .inr (3, [.int t_now_many, .ref h_t_now_numbers])), (h_t_now_numbers, .inl (cI, 3, .inl t_now_numbers)), (h_t_images, .inl (cS, 2, .inr (.inr (.inr (.inr (on_im h_t_images_0 h_t_images_1)))))), (h_t_images_0, .inr (3, [.int t_images_0_many, .ref h_t_images_0_numbers])), (h_t_images_0_numbers, .inl (cI, 3, .inl t_images_0_numbers)), (h_t_images_1, .inr (3, [.int t_images_1_many, .ref h_t_images_1_numbers])), (h_t_images_1_numbers, .inl (cI, 3, .inl t_images_1_numbers))]) (rt := (some (.int q_5))) ⟨hx, hb, hml, hown, hts⟩ (k_X3_isUnused h_t_images_0 h_t_images_0_numbers t_images_0_many q_5 hq_5) ⟨va_cnB 0 hts gX5_restore_X3_isUnused_n204 rfl rfl rfl (hN _ (List.mem_of_getElem? (i := 55) rfl)) w3 hdX3_isUnused ⟨(Nat.le_of_ble_eq_true rfl), (Nat.le_of_ble_eq_true rfl)⟩, w4, w5⟩ hK hN hP hD hS hA [4] [0, 1, 2, 3, 5, 6, 7] [0, 1, 2, 3, 7, 4, 5, 6] rfl rfl rfl rfl (by decide) rfl rfl rfl rfl rfl rfl hl.1 rfl (Nat.le_of_ble_eq_true rfl) rfl dX5_restore_18 ⟨Nat.zero_le _, Nat.zero_le _⟩ (fun H locs hP hD hS => ?_)
      refine lv_if_eq (tgt := 27) hx hb dX5_restore_21 (by decide) (fun c_6 => ?_) (fun c_6 => ?_)
      · have hM := on_pos c_6 hM
        refine lv_aload_n hx hb dX5_restore_27 rfl (lv_at hl 0 rfl) ?_
        refine va_get (D := D) (ci := 5) (v := .ref h_t_now) (C := RX5) (T := TX5) (N := 8) hx hb hts w2 hown hK hP 0 rfl rfl 0 (by decide) w6 (fun _ h9 => h9) rfl dX5_restore_28 ?_
        refine lv_aload_n hx hb dX5_restore_31 rfl (lv_at hl 0 rfl) ?_
        refine va_get (D := D) (ci := 5) (v := .ref h_t_images) (C := RX5) (T := TX5) (N := 8) hx hb hts w2 hown hK hP 0 rfl rfl 1 (by decide) w1 (fun _ h9 => h9) rfl dX5_restore_32 ?_
        refine lv_iload_n hx hb dX5_restore_35 rfl (lv_at hl 1 rfl) ?_
        obtain ⟨g_7, hM⟩ := on_gdE hM
        refine va_aldq hx hb hK hP 3 3 rfl rfl (on_ixE g_7) dX5_restore_36 ?_
        by_cases c_8 : v1 = 0
        · rw [on_im0 c_8]
          have hM := on_pos c_8 hM
          obtain ⟨q_9, hq_9, hM⟩ := on_bind hM
          refine on_callVN (rest := []) (As := [.ref h_t_images_0]) (st1 := []) (C := RX3) (ci := 3) (q0 := 1) (wc := [(h_t_now, .inr (3, [.int t_now_many, .ref h_t_now_numbers])), (h_t_now_numbers, .inl (cI, 3, .inl t_now_numbers)), (h_t_images_0, .inr (3, [.int t_images_0_many, .ref h_t_images_0_numbers])), (h_t_images_0_numbers, .inl (cI, 3, .inl t_images_0_numbers))]) (wr := [(h_t, .inr (5, [.ref h_t_now, .ref h_t_images, .ref h_t_pad, .ref h_t_net, .ref h_t_second, .ref h_t_renumbering, .ref h_t_table, .ref h_t_marks])), (h_t_images, .inl (cS, 2, .inr (.inr (.inr (.inr (on_im h_t_images_0 h_t_images_1)))))), (h_t_images_1, .inr (3, [.int t_images_1_many, .ref h_t_images_1_numbers])), (h_t_images_1_numbers, .inl (cI, 3, .inl t_images_1_numbers))]) (wc' := [(h_t_now, .inr (3, [.int q_9.1, .ref h_t_now_numbers])), (h_t_now_numbers, .inl (cI, 3, .inl q_9.2)), (h_t_images_0, .inr (3, [.int t_images_0_many, .ref h_t_images_0_numbers])), (h_t_images_0_numbers, .inl (cI, 3, .inl t_images_0_numbers))]) (wf := [(h_t, .inr (5, [.ref h_t_now, .ref h_t_images, .ref h_t_pad, .ref h_t_net, .ref h_t_second, .ref h_t_renumbering, .ref h_t_table, .ref h_t_marks])), (h_t_now, .inr (3, [.int q_9.1, .ref h_t_now_numbers])), (h_t_now_numbers, .inl (cI, 3, .inl q_9.2)), (h_t_images, .inl (cS, 2, .inr (.inr (.inr (.inr (on_im h_t_images_0 h_t_images_1)))))), (h_t_images_0, .inr (3, [.int t_images_0_many, .ref h_t_images_0_numbers])), (h_t_images_0_numbers, .inl (cI, 3, .inl t_images_0_numbers)), (h_t_images_1, .inr (3, [.int t_images_1_many, .ref h_t_images_1_numbers])), (h_t_images_1_numbers, .inl (cI, 3, .inl t_images_1_numbers))]) (rt := none) ⟨hx, hb, hml, hown, hts⟩ (k_X3_copy h_t_now h_t_now_numbers h_t_images_0 h_t_images_0_numbers t_now_many t_now_numbers t_images_0_many t_images_0_numbers q_9 hq_9) ⟨va_cnB 1 hts gX5_restore_X3_copy_n200 rfl rfl rfl (hN _ (List.mem_of_getElem? (i := 54) rfl)) w3 hdX3_copy ⟨(Nat.le_of_ble_eq_true rfl), (Nat.le_of_ble_eq_true rfl)⟩, w7, w8⟩ hK hN hP hD hS hA [1, 2, 4, 5] [0, 3, 6, 7] [0, 4, 5, 1, 6, 7, 2, 3] rfl rfl rfl rfl (by decide) rfl rfl rfl rfl rfl rfl hl.1 rfl (Nat.le_of_ble_eq_true rfl) rfl dX5_restore_37 ⟨Nat.zero_le _, Nat.zero_le _⟩ (fun H locs hP hD hS => ?_)
          refine lv_iconst (v := 1) hx hb dX5_restore_40 (by decide) ?_
          have hM := Option.some.inj hM
          subst hM
          rw [← hQ]
          exact on_iret hx hb hr hlk hP hD hS dX5_restore_41
        · rw [on_im1 g_7 c_8]
          have hM := on_neg c_8 hM
          obtain ⟨q_10, hq_10, hM⟩ := on_bind hM
          refine on_callVN (rest := []) (As := [.ref h_t_images_1]) (st1 := []) (C := RX3) (ci := 3) (q0 := 1) (wc := [(h_t_now, .inr (3, [.int t_now_many, .ref h_t_now_numbers])), (h_t_now_numbers, .inl (cI, 3, .inl t_now_numbers)), (h_t_images_1, .inr (3, [.int t_images_1_many, .ref h_t_images_1_numbers])), (h_t_images_1_numbers, .inl (cI, 3, .inl t_images_1_numbers))]) (wr := [(h_t, .inr (5, [.ref h_t_now, .ref h_t_images, .ref h_t_pad, .ref h_t_net, .ref h_t_second, .ref h_t_renumbering, .ref h_t_table, .ref h_t_marks])), (h_t_images, .inl (cS, 2, .inr (.inr (.inr (.inr (on_im h_t_images_0 h_t_images_1)))))), (h_t_images_0, .inr (3, [.int t_images_0_many, .ref h_t_images_0_numbers])), (h_t_images_0_numbers, .inl (cI, 3, .inl t_images_0_numbers))]) (wc' := [(h_t_now, .inr (3, [.int q_10.1, .ref h_t_now_numbers])), (h_t_now_numbers, .inl (cI, 3, .inl q_10.2)), (h_t_images_1, .inr (3, [.int t_images_1_many, .ref h_t_images_1_numbers])), (h_t_images_1_numbers, .inl (cI, 3, .inl t_images_1_numbers))]) (wf := [(h_t, .inr (5, [.ref h_t_now, .ref h_t_images, .ref h_t_pad, .ref h_t_net, .ref h_t_second, .ref h_t_renumbering, .ref h_t_table, .ref h_t_marks])), (h_t_now, .inr (3, [.int q_10.1, .ref h_t_now_numbers])), (h_t_now_numbers, .inl (cI, 3, .inl q_10.2)), (h_t_images, .inl (cS, 2, .inr (.inr (.inr (.inr (on_im h_t_images_0 h_t_images_1)))))), (h_t_images_0, .inr (3, [.int t_images_0_many, .ref h_t_images_0_numbers])), (h_t_images_0_numbers, .inl (cI, 3, .inl t_images_0_numbers)), (h_t_images_1, .inr (3, [.int t_images_1_many, .ref h_t_images_1_numbers])), (h_t_images_1_numbers, .inl (cI, 3, .inl t_images_1_numbers))]) (rt := none) ⟨hx, hb, hml, hown, hts⟩ (k_X3_copy h_t_now h_t_now_numbers h_t_images_1 h_t_images_1_numbers t_now_many t_now_numbers t_images_1_many t_images_1_numbers q_10 hq_10) ⟨va_cnB 1 hts gX5_restore_X3_copy_n200 rfl rfl rfl (hN _ (List.mem_of_getElem? (i := 54) rfl)) w3 hdX3_copy ⟨(Nat.le_of_ble_eq_true rfl), (Nat.le_of_ble_eq_true rfl)⟩, w7, w8⟩ hK hN hP hD hS hA [1, 2, 6, 7] [0, 3, 4, 5] [0, 4, 5, 1, 2, 3, 6, 7] rfl rfl rfl rfl (by decide) rfl rfl rfl rfl rfl rfl hl.1 rfl (Nat.le_of_ble_eq_true rfl) rfl dX5_restore_37 ⟨Nat.zero_le _, Nat.zero_le _⟩ (fun H locs hP hD hS => ?_)
          refine lv_iconst (v := 1) hx hb dX5_restore_40 (by decide) ?_
          have hM := Option.some.inj hM
          subst hM
          rw [← hQ]
          exact on_iret hx hb hr hlk hP hD hS dX5_restore_41
      · have hM := on_neg c_6 hM
        refine lv_bipush (v := -3) hx hb dX5_restore_24 (by decide) ?_
        have hM := Option.some.inj hM
        subst hM
        rw [← hQ]
        exact on_iret hx hb hr hlk hP hD hS dX5_restore_26
    · rw [on_im1 g_3 c_4]
      have hM := on_neg c_4 hM
      obtain ⟨q_11, hq_11, hM⟩ := on_bind hM
      refine on_callVN (rest := []) (As := []) (st1 := [.int q_11]) (C := RX3) (ci := 3) (q0 := 6) (wc := [(h_t_images_1, .inr (3, [.int t_images_1_many, .ref h_t_images_1_numbers]))]) (wr := [(h_t, .inr (5, [.ref h_t_now, .ref h_t_images, .ref h_t_pad, .ref h_t_net, .ref h_t_second, .ref h_t_renumbering, .ref h_t_table, .ref h_t_marks])), (h_t_now, .inr (3, [.int t_now_many, .ref h_t_now_numbers])), (h_t_now_numbers, .inl (cI, 3, .inl t_now_numbers)), (h_t_images, .inl (cS, 2, .inr (.inr (.inr (.inr (on_im h_t_images_0 h_t_images_1)))))), (h_t_images_0, .inr (3, [.int t_images_0_many, .ref h_t_images_0_numbers])), (h_t_images_0_numbers, .inl (cI, 3, .inl t_images_0_numbers)), (h_t_images_1_numbers, .inl (cI, 3, .inl t_images_1_numbers))]) (wc' := [(h_t_images_1, .inr (3, [.int t_images_1_many, .ref h_t_images_1_numbers]))]) (wf := [(h_t, .inr (5, [.ref h_t_now, .ref h_t_images, .ref h_t_pad, .ref h_t_net, .ref h_t_second, .ref h_t_renumbering, .ref h_t_table, .ref h_t_marks])), (h_t_now, .inr (3, [.int t_now_many, .ref h_t_now_numbers])), (h_t_now_numbers, .inl (cI, 3, .inl t_now_numbers)), (h_t_images, .inl (cS, 2, .inr (.inr (.inr (.inr (on_im h_t_images_0 h_t_images_1)))))), (h_t_images_0, .inr (3, [.int t_images_0_many, .ref h_t_images_0_numbers])), (h_t_images_0_numbers, .inl (cI, 3, .inl t_images_0_numbers)), (h_t_images_1, .inr (3, [.int t_images_1_many, .ref h_t_images_1_numbers])), (h_t_images_1_numbers, .inl (cI, 3, .inl t_images_1_numbers))]) (rt := (some (.int q_11))) ⟨hx, hb, hml, hown, hts⟩ (k_X3_isUnused h_t_images_1 h_t_images_1_numbers t_images_1_many q_11 hq_11) ⟨va_cnB 0 hts gX5_restore_X3_isUnused_n204 rfl rfl rfl (hN _ (List.mem_of_getElem? (i := 55) rfl)) w3 hdX3_isUnused ⟨(Nat.le_of_ble_eq_true rfl), (Nat.le_of_ble_eq_true rfl)⟩, w4, w5⟩ hK hN hP hD hS hA [6] [0, 1, 2, 3, 4, 5, 7] [0, 1, 2, 3, 4, 5, 7, 6] rfl rfl rfl rfl (by decide) rfl rfl rfl rfl rfl rfl hl.1 rfl (Nat.le_of_ble_eq_true rfl) rfl dX5_restore_18 ⟨Nat.zero_le _, Nat.zero_le _⟩ (fun H locs hP hD hS => ?_)
      refine lv_if_eq (tgt := 27) hx hb dX5_restore_21 (by decide) (fun c_12 => ?_) (fun c_12 => ?_)
      · have hM := on_pos c_12 hM
        refine lv_aload_n hx hb dX5_restore_27 rfl (lv_at hl 0 rfl) ?_
        refine va_get (D := D) (ci := 5) (v := .ref h_t_now) (C := RX5) (T := TX5) (N := 8) hx hb hts w2 hown hK hP 0 rfl rfl 0 (by decide) w6 (fun _ h9 => h9) rfl dX5_restore_28 ?_
        refine lv_aload_n hx hb dX5_restore_31 rfl (lv_at hl 0 rfl) ?_
        refine va_get (D := D) (ci := 5) (v := .ref h_t_images) (C := RX5) (T := TX5) (N := 8) hx hb hts w2 hown hK hP 0 rfl rfl 1 (by decide) w1 (fun _ h9 => h9) rfl dX5_restore_32 ?_
        refine lv_iload_n hx hb dX5_restore_35 rfl (lv_at hl 1 rfl) ?_
        obtain ⟨g_13, hM⟩ := on_gdE hM
        refine va_aldq hx hb hK hP 3 3 rfl rfl (on_ixE g_13) dX5_restore_36 ?_
        by_cases c_14 : v1 = 0
        · rw [on_im0 c_14]
          have hM := on_pos c_14 hM
          obtain ⟨q_15, hq_15, hM⟩ := on_bind hM
          refine on_callVN (rest := []) (As := [.ref h_t_images_0]) (st1 := []) (C := RX3) (ci := 3) (q0 := 1) (wc := [(h_t_now, .inr (3, [.int t_now_many, .ref h_t_now_numbers])), (h_t_now_numbers, .inl (cI, 3, .inl t_now_numbers)), (h_t_images_0, .inr (3, [.int t_images_0_many, .ref h_t_images_0_numbers])), (h_t_images_0_numbers, .inl (cI, 3, .inl t_images_0_numbers))]) (wr := [(h_t, .inr (5, [.ref h_t_now, .ref h_t_images, .ref h_t_pad, .ref h_t_net, .ref h_t_second, .ref h_t_renumbering, .ref h_t_table, .ref h_t_marks])), (h_t_images, .inl (cS, 2, .inr (.inr (.inr (.inr (on_im h_t_images_0 h_t_images_1)))))), (h_t_images_1, .inr (3, [.int t_images_1_many, .ref h_t_images_1_numbers])), (h_t_images_1_numbers, .inl (cI, 3, .inl t_images_1_numbers))]) (wc' := [(h_t_now, .inr (3, [.int q_15.1, .ref h_t_now_numbers])), (h_t_now_numbers, .inl (cI, 3, .inl q_15.2)), (h_t_images_0, .inr (3, [.int t_images_0_many, .ref h_t_images_0_numbers])), (h_t_images_0_numbers, .inl (cI, 3, .inl t_images_0_numbers))]) (wf := [(h_t, .inr (5, [.ref h_t_now, .ref h_t_images, .ref h_t_pad, .ref h_t_net, .ref h_t_second, .ref h_t_renumbering, .ref h_t_table, .ref h_t_marks])), (h_t_now, .inr (3, [.int q_15.1, .ref h_t_now_numbers])), (h_t_now_numbers, .inl (cI, 3, .inl q_15.2)), (h_t_images, .inl (cS, 2, .inr (.inr (.inr (.inr (on_im h_t_images_0 h_t_images_1)))))), (h_t_images_0, .inr (3, [.int t_images_0_many, .ref h_t_images_0_numbers])), (h_t_images_0_numbers, .inl (cI, 3, .inl t_images_0_numbers)), (h_t_images_1, .inr (3, [.int t_images_1_many, .ref h_t_images_1_numbers])), (h_t_images_1_numbers, .inl (cI, 3, .inl t_images_1_numbers))]) (rt := none) ⟨hx, hb, hml, hown, hts⟩ (k_X3_copy h_t_now h_t_now_numbers h_t_images_0 h_t_images_0_numbers t_now_many t_now_numbers t_images_0_many t_images_0_numbers q_15 hq_15) ⟨va_cnB 1 hts gX5_restore_X3_copy_n200 rfl rfl rfl (hN _ (List.mem_of_getElem? (i := 54) rfl)) w3 hdX3_copy ⟨(Nat.le_of_ble_eq_true rfl), (Nat.le_of_ble_eq_true rfl)⟩, w7, w8⟩ hK hN hP hD hS hA [1, 2, 4, 5] [0, 3, 6, 7] [0, 4, 5, 1, 6, 7, 2, 3] rfl rfl rfl rfl (by decide) rfl rfl rfl rfl rfl rfl hl.1 rfl (Nat.le_of_ble_eq_true rfl) rfl dX5_restore_37 ⟨Nat.zero_le _, Nat.zero_le _⟩ (fun H locs hP hD hS => ?_)
          refine lv_iconst (v := 1) hx hb dX5_restore_40 (by decide) ?_
          have hM := Option.some.inj hM
          subst hM
          rw [← hQ]
          exact on_iret hx hb hr hlk hP hD hS dX5_restore_41
        · rw [on_im1 g_13 c_14]
          have hM := on_neg c_14 hM
          obtain ⟨q_16, hq_16, hM⟩ := on_bind hM
          refine on_callVN (rest := []) (As := [.ref h_t_images_1]) (st1 := []) (C := RX3) (ci := 3) (q0 := 1) (wc := [(h_t_now, .inr (3, [.int t_now_many, .ref h_t_now_numbers])), (h_t_now_numbers, .inl (cI, 3, .inl t_now_numbers)), (h_t_images_1, .inr (3, [.int t_images_1_many, .ref h_t_images_1_numbers])), (h_t_images_1_numbers, .inl (cI, 3, .inl t_images_1_numbers))]) (wr := [(h_t, .inr (5, [.ref h_t_now, .ref h_t_images, .ref h_t_pad, .ref h_t_net, .ref h_t_second, .ref h_t_renumbering, .ref h_t_table, .ref h_t_marks])), (h_t_images, .inl (cS, 2, .inr (.inr (.inr (.inr (on_im h_t_images_0 h_t_images_1)))))), (h_t_images_0, .inr (3, [.int t_images_0_many, .ref h_t_images_0_numbers])), (h_t_images_0_numbers, .inl (cI, 3, .inl t_images_0_numbers))]) (wc' := [(h_t_now, .inr (3, [.int q_16.1, .ref h_t_now_numbers])), (h_t_now_numbers, .inl (cI, 3, .inl q_16.2)), (h_t_images_1, .inr (3, [.int t_images_1_many, .ref h_t_images_1_numbers])), (h_t_images_1_numbers, .inl (cI, 3, .inl t_images_1_numbers))]) (wf := [(h_t, .inr (5, [.ref h_t_now, .ref h_t_images, .ref h_t_pad, .ref h_t_net, .ref h_t_second, .ref h_t_renumbering, .ref h_t_table, .ref h_t_marks])), (h_t_now, .inr (3, [.int q_16.1, .ref h_t_now_numbers])), (h_t_now_numbers, .inl (cI, 3, .inl q_16.2)), (h_t_images, .inl (cS, 2, .inr (.inr (.inr (.inr (on_im h_t_images_0 h_t_images_1)))))), (h_t_images_0, .inr (3, [.int t_images_0_many, .ref h_t_images_0_numbers])), (h_t_images_0_numbers, .inl (cI, 3, .inl t_images_0_numbers)), (h_t_images_1, .inr (3, [.int t_images_1_many, .ref h_t_images_1_numbers])), (h_t_images_1_numbers, .inl (cI, 3, .inl t_images_1_numbers))]) (rt := none) ⟨hx, hb, hml, hown, hts⟩ (k_X3_copy h_t_now h_t_now_numbers h_t_images_1 h_t_images_1_numbers t_now_many t_now_numbers t_images_1_many t_images_1_numbers q_16 hq_16) ⟨va_cnB 1 hts gX5_restore_X3_copy_n200 rfl rfl rfl (hN _ (List.mem_of_getElem? (i := 54) rfl)) w3 hdX3_copy ⟨(Nat.le_of_ble_eq_true rfl), (Nat.le_of_ble_eq_true rfl)⟩, w7, w8⟩ hK hN hP hD hS hA [1, 2, 6, 7] [0, 3, 4, 5] [0, 4, 5, 1, 2, 3, 6, 7] rfl rfl rfl rfl (by decide) rfl rfl rfl rfl rfl rfl hl.1 rfl (Nat.le_of_ble_eq_true rfl) rfl dX5_restore_37 ⟨Nat.zero_le _, Nat.zero_le _⟩ (fun H locs hP hD hS => ?_)
          refine lv_iconst (v := 1) hx hb dX5_restore_40 (by decide) ?_
          have hM := Option.some.inj hM
          subst hM
          rw [← hQ]
          exact on_iret hx hb hr hlk hP hD hS dX5_restore_41
      · have hM := on_neg c_12 hM
        refine lv_bipush (v := -3) hx hb dX5_restore_24 (by decide) ?_
        have hM := Option.some.inj hM
        subst hM
        rw [← hQ]
        exact on_iret hx hb hr hlk hP hD hS dX5_restore_26
  · have hM := on_pos c_2 hM
    refine lv_bipush (v := -2) hx hb dX5_restore_9 (by decide) ?_
    have hM := Option.some.inj hM
    subst hM
    rw [← hQ]
    exact on_iret hx hb hr hlk hP hD hS dX5_restore_11
abbrev rm_X5_keptImages : Room := { frames := 1, cells := 0, slots := 0, locals := 20 }
set_option maxHeartbeats 4000000 in
set_option maxRecDepth 100000 in
theorem k_X5_keptImages {l : Launch} {D : va_G} {cI cJ cZ cS cA : ClassId} (h_t : Nat) (h_t_now : Nat) (h_t_images : Nat) (h_t_pad : Nat) (h_t_net : Nat) (h_t_second : Nat) (h_t_renumbering : Nat) (h_t_table : Nat) (h_t_marks : Nat) (h_t_images_0 : Nat) (h_t_images_1 : Nat) (h_t_images_0_numbers : Nat) (h_t_images_1_numbers : Nat) (t_images_0_many : Int32) (t_images_1_many : Int32)  (out : Int32) (hM : M_X5_keptImages t_images_0_many t_images_1_many = some out) : on_Con l yX5_keptImages wsX5_keptImages rm_X5_keptImages [.ref h_t] D (on_T cI cJ cZ cS cA) [(h_t, .inr (5, [.ref h_t_now, .ref h_t_images, .ref h_t_pad, .ref h_t_net, .ref h_t_second, .ref h_t_renumbering, .ref h_t_table, .ref h_t_marks])), (h_t_images, .inl (cS, 2, .inr (.inr (.inr (.inr (on_im h_t_images_0 h_t_images_1)))))), (h_t_images_0, .inr (3, [.int t_images_0_many, .ref h_t_images_0_numbers])), (h_t_images_1, .inr (3, [.int t_images_1_many, .ref h_t_images_1_numbers]))] (some (.int out)) [(h_t, .inr (5, [.ref h_t_now, .ref h_t_images, .ref h_t_pad, .ref h_t_net, .ref h_t_second, .ref h_t_renumbering, .ref h_t_table, .ref h_t_marks])), (h_t_images, .inl (cS, 2, .inr (.inr (.inr (.inr (on_im h_t_images_0 h_t_images_1)))))), (h_t_images_0, .inr (3, [.int t_images_0_many, .ref h_t_images_0_numbers])), (h_t_images_1, .inr (3, [.int t_images_1_many, .ref h_t_images_1_numbers]))] := by
  unfold M_X5_keptImages at hM
  refine on_enter (cc := cX5_keptImages) (nL := 3) (rt := (some .int)) (own := RX5) (by decide +kernel) rfl rfl (Nat.le_of_ble_eq_true rfl) ?_
  intro p e s m below meth c A ls hx hb hml hr hlk hts hown hA hK hN H locs hP hD hS hl
  have hl : lv_has ls 3 [(0, .ref h_t)] := hl
  generalize hQ : MQ below (on_Q D (some (.int out)) [(h_t, .inr (5, [.ref h_t_now, .ref h_t_images, .ref h_t_pad, .ref h_t_net, .ref h_t_second, .ref h_t_renumbering, .ref h_t_table, .ref h_t_marks])), (h_t_images, .inl (cS, 2, .inr (.inr (.inr (.inr (on_im h_t_images_0 h_t_images_1)))))), (h_t_images_0, .inr (3, [.int t_images_0_many, .ref h_t_images_0_numbers])), (h_t_images_1, .inr (3, [.int t_images_1_many, .ref h_t_images_1_numbers]))] A) _ s 0 0 A = Q
  generalize hAr : List.toArray ([.ref h_t] : List Value) = args at hts hQ ⊢
  have w1 := hts (.fieldLink RX5 16 "OddNets" "images" "[LOddNets$Shelf;") (by decide +kernel)
  have w2 : ∀ w ∈ wsX50, w ∈ wsX5_keptImages := by decide +kernel
  have w3 := hts (.initialized RX3) (by decide +kernel)
  have w4 := hts (.instanceMethod yX3_isUnused) (by decide +kernel)
  have w5 := hts (.selects RX3 yX3_isUnused yX3_isUnused) (by decide +kernel)
  have lp_4 : ∀ (n : Nat) (v1 : Int32) (v2 : Int32) (x : Int32), on_loop (fun (s : Int32 × Int32) => B_X5_keptImages_4 t_images_0_many t_images_1_many s.1 s.2) n (v1, v2) = some x → (∀ (H : Heap) (locs : List Loc), va_P D vwCl [(h_t, .inr (5, [.ref h_t_now, .ref h_t_images, .ref h_t_pad, .ref h_t_net, .ref h_t_second, .ref h_t_renumbering, .ref h_t_table, .ref h_t_marks])), (h_t_images, .inl (cS, 2, .inr (.inr (.inr (.inr (on_im h_t_images_0 h_t_images_1)))))), (h_t_images_0, .inr (3, [.int t_images_0_many, .ref h_t_images_0_numbers])), (h_t_images_1, .inr (3, [.int t_images_1_many, .ref h_t_images_1_numbers]))] H → va_D A [(h_t, .inr (5, [.ref h_t_now, .ref h_t_images, .ref h_t_pad, .ref h_t_net, .ref h_t_second, .ref h_t_renumbering, .ref h_t_table, .ref h_t_marks])), (h_t_images, .inl (cS, 2, .inr (.inr (.inr (.inr (on_im h_t_images_0 h_t_images_1)))))), (h_t_images_0, .inr (3, [.int t_images_0_many, .ref h_t_images_0_numbers])), (h_t_images_1, .inr (3, [.int t_images_1_many, .ref h_t_images_1_numbers]))] → va_S A s.heap H locs → ∀ ls : Array Slot, lv_has ls 3 [(1, .int x)] → W p l e rm_X5_keptImages s m args below meth c H locs 0 0 Q (F0 m 33 ls [])) → ∀ (H : Heap) (locs : List Loc), va_P D vwCl [(h_t, .inr (5, [.ref h_t_now, .ref h_t_images, .ref h_t_pad, .ref h_t_net, .ref h_t_second, .ref h_t_renumbering, .ref h_t_table, .ref h_t_marks])), (h_t_images, .inl (cS, 2, .inr (.inr (.inr (.inr (on_im h_t_images_0 h_t_images_1)))))), (h_t_images_0, .inr (3, [.int t_images_0_many, .ref h_t_images_0_numbers])), (h_t_images_1, .inr (3, [.int t_images_1_many, .ref h_t_images_1_numbers]))] H → va_D A [(h_t, .inr (5, [.ref h_t_now, .ref h_t_images, .ref h_t_pad, .ref h_t_net, .ref h_t_second, .ref h_t_renumbering, .ref h_t_table, .ref h_t_marks])), (h_t_images, .inl (cS, 2, .inr (.inr (.inr (.inr (on_im h_t_images_0 h_t_images_1)))))), (h_t_images_0, .inr (3, [.int t_images_0_many, .ref h_t_images_0_numbers])), (h_t_images_1, .inr (3, [.int t_images_1_many, .ref h_t_images_1_numbers]))] → va_S A s.heap H locs → ∀ ls : Array Slot, lv_has ls 3 [(0, .ref h_t), (1, .int v1), (2, .int v2)] → W p l e rm_X5_keptImages s m args below meth c H locs 0 0 Q (F0 m 4 ls []) := by
    intro n
    induction n with
    | zero =>
      intro v1 v2 x hL
      exact (on_loop0 hL).elim
    | succ n ih =>
      intro v1 v2 x hL K1 H locs hP hD hS ls hl
      obtain ⟨y, hM, hk⟩ := on_loopE hL
      have hM : B_X5_keptImages_4 t_images_0_many t_images_1_many v1 v2 = some y := hM
      unfold B_X5_keptImages_4 at hM
      refine lv_iload_n hx hb dX5_keptImages_4 rfl (lv_at hl 2 rfl) ?_
      refine lv_iconst (v := 2) hx hb dX5_keptImages_5 (by decide) ?_
      refine lv_icmp_ge (tgt := 33) hx hb dX5_keptImages_6 (by decide) (fun c_1 => ?_) (fun c_1 => ?_)
      · have hM := on_pos c_1 hM
        have hk := on_nxR hM hk
        subst hk
        exact K1 _ _ hP hD hS ls (lv_sub hl [1] rfl)
      · have hM := on_neg c_1 hM
        refine lv_aload_n hx hb dX5_keptImages_9 rfl (lv_at hl 0 rfl) ?_
        refine va_get (D := D) (ci := 5) (v := .ref h_t_images) (C := RX5) (T := TX5) (N := 8) hx hb hts w2 hown hK hP 0 rfl rfl 1 (by decide) w1 (fun _ h9 => h9) rfl dX5_keptImages_10 ?_
        refine lv_iload_n hx hb dX5_keptImages_13 rfl (lv_at hl 2 rfl) ?_
        obtain ⟨g_2, hM⟩ := on_gdE hM
        refine va_aldq hx hb hK hP 1 3 rfl rfl (on_ixE g_2) dX5_keptImages_14 ?_
        by_cases c_3 : v2 = 0
        · rw [on_im0 c_3]
          have hM := on_pos c_3 hM
          obtain ⟨q_4, hq_4, hM⟩ := on_bind hM
          refine on_callVN (rest := []) (As := []) (st1 := [.int q_4]) (C := RX3) (ci := 3) (q0 := 2) (wc := [(h_t_images_0, .inr (3, [.int t_images_0_many, .ref h_t_images_0_numbers]))]) (wr := [(h_t, .inr (5, [.ref h_t_now, .ref h_t_images, .ref h_t_pad, .ref h_t_net, .ref h_t_second, .ref h_t_renumbering, .ref h_t_table, .ref h_t_marks])), (h_t_images, .inl (cS, 2, .inr (.inr (.inr (.inr (on_im h_t_images_0 h_t_images_1)))))), (h_t_images_1, .inr (3, [.int t_images_1_many, .ref h_t_images_1_numbers]))]) (wc' := [(h_t_images_0, .inr (3, [.int t_images_0_many, .ref h_t_images_0_numbers]))]) (wf := [(h_t, .inr (5, [.ref h_t_now, .ref h_t_images, .ref h_t_pad, .ref h_t_net, .ref h_t_second, .ref h_t_renumbering, .ref h_t_table, .ref h_t_marks])), (h_t_images, .inl (cS, 2, .inr (.inr (.inr (.inr (on_im h_t_images_0 h_t_images_1)))))), (h_t_images_0, .inr (3, [.int t_images_0_many, .ref h_t_images_0_numbers])), (h_t_images_1, .inr (3, [.int t_images_1_many, .ref h_t_images_1_numbers]))]) (rt := (some (.int q_4))) ⟨hx, hb, hml, hown, hts⟩ (k_X3_isUnused h_t_images_0 h_t_images_0_numbers t_images_0_many q_4 hq_4) ⟨va_cnB 0 hts gX5_keptImages_X3_isUnused_n204 rfl rfl rfl (hN _ (List.mem_of_getElem? (i := 55) rfl)) w3 hdX3_isUnused ⟨(Nat.le_of_ble_eq_true rfl), (Nat.le_of_ble_eq_true rfl)⟩, w4, w5⟩ hK hN hP hD hS hA [2] [0, 1, 3] [0, 1, 3, 2] rfl rfl rfl rfl (by decide) rfl rfl rfl rfl rfl rfl hl.1 rfl (Nat.le_of_ble_eq_true rfl) rfl dX5_keptImages_15 ⟨Nat.zero_le _, Nat.zero_le _⟩ (fun H locs hP hD hS => ?_)
          refine lv_if_ne (tgt := 27) hx hb dX5_keptImages_18 (by decide) (fun c_5 => ?_) (fun c_5 => ?_)
          · have hM := on_neg c_5 hM
            obtain ⟨v2_6, ev2_6⟩ : ∃ z : Int32, z = v2 + 1 := ⟨_, rfl⟩
            have hM := on_letE ev2_6 hM
            refine lv_iinc (v := v2_6) (lv' := [(2, .int v2_6), (0, .ref h_t), (1, .int v1)]) hx hb dX5_keptImages_27 hl (k := 2) rfl (by rw [ev2_6]; rfl) (by decide) rfl (fun ls hl => ?_)
            refine lv_goto (tgt := 4) hx hb dX5_keptImages_30 (by decide) ?_
            have hk := on_nxL hM hk
            exact ih v1 v2_6 _ hk K1 _ _ hP hD hS ls (lv_sub hl [1, 2, 0] rfl)
          · have hM := on_pos c_5 hM
            refine lv_iload_n hx hb dX5_keptImages_21 rfl (lv_at hl 1 rfl) ?_
            refine lv_iconst (v := 1) hx hb dX5_keptImages_22 (by decide) ?_
            refine lv_iload_n hx hb dX5_keptImages_23 rfl (lv_at hl 2 rfl) ?_
            refine lv_ishl hx hb dX5_keptImages_24 ?_
            refine lv_ior hx hb dX5_keptImages_25 ?_
            refine lv_topi (fun v1_7 ev1_7 => ?_)
            have hM := on_letE ev1_7 hM
            refine lv_istore_n (lv' := [(1, .int v1_7), (0, .ref h_t), (2, .int v2)]) hx hb dX5_keptImages_26 rfl hl (by decide) rfl (fun ls hl => ?_)
            obtain ⟨v2_8, ev2_8⟩ : ∃ z : Int32, z = v2 + 1 := ⟨_, rfl⟩
            have hM := on_letE ev2_8 hM
            refine lv_iinc (v := v2_8) (lv' := [(2, .int v2_8), (1, .int v1_7), (0, .ref h_t)]) hx hb dX5_keptImages_27 hl (k := 2) rfl (by rw [ev2_8]; rfl) (by decide) rfl (fun ls hl => ?_)
            refine lv_goto (tgt := 4) hx hb dX5_keptImages_30 (by decide) ?_
            have hk := on_nxL hM hk
            exact ih v1_7 v2_8 _ hk K1 _ _ hP hD hS ls (lv_sub hl [2, 1, 0] rfl)
        · rw [on_im1 g_2 c_3]
          have hM := on_neg c_3 hM
          obtain ⟨q_9, hq_9, hM⟩ := on_bind hM
          refine on_callVN (rest := []) (As := []) (st1 := [.int q_9]) (C := RX3) (ci := 3) (q0 := 3) (wc := [(h_t_images_1, .inr (3, [.int t_images_1_many, .ref h_t_images_1_numbers]))]) (wr := [(h_t, .inr (5, [.ref h_t_now, .ref h_t_images, .ref h_t_pad, .ref h_t_net, .ref h_t_second, .ref h_t_renumbering, .ref h_t_table, .ref h_t_marks])), (h_t_images, .inl (cS, 2, .inr (.inr (.inr (.inr (on_im h_t_images_0 h_t_images_1)))))), (h_t_images_0, .inr (3, [.int t_images_0_many, .ref h_t_images_0_numbers]))]) (wc' := [(h_t_images_1, .inr (3, [.int t_images_1_many, .ref h_t_images_1_numbers]))]) (wf := [(h_t, .inr (5, [.ref h_t_now, .ref h_t_images, .ref h_t_pad, .ref h_t_net, .ref h_t_second, .ref h_t_renumbering, .ref h_t_table, .ref h_t_marks])), (h_t_images, .inl (cS, 2, .inr (.inr (.inr (.inr (on_im h_t_images_0 h_t_images_1)))))), (h_t_images_0, .inr (3, [.int t_images_0_many, .ref h_t_images_0_numbers])), (h_t_images_1, .inr (3, [.int t_images_1_many, .ref h_t_images_1_numbers]))]) (rt := (some (.int q_9))) ⟨hx, hb, hml, hown, hts⟩ (k_X3_isUnused h_t_images_1 h_t_images_1_numbers t_images_1_many q_9 hq_9) ⟨va_cnB 0 hts gX5_keptImages_X3_isUnused_n204 rfl rfl rfl (hN _ (List.mem_of_getElem? (i := 55) rfl)) w3 hdX3_isUnused ⟨(Nat.le_of_ble_eq_true rfl), (Nat.le_of_ble_eq_true rfl)⟩, w4, w5⟩ hK hN hP hD hS hA [3] [0, 1, 2] [0, 1, 2, 3] rfl rfl rfl rfl (by decide) rfl rfl rfl rfl rfl rfl hl.1 rfl (Nat.le_of_ble_eq_true rfl) rfl dX5_keptImages_15 ⟨Nat.zero_le _, Nat.zero_le _⟩ (fun H locs hP hD hS => ?_)
          refine lv_if_ne (tgt := 27) hx hb dX5_keptImages_18 (by decide) (fun c_10 => ?_) (fun c_10 => ?_)
          · have hM := on_neg c_10 hM
            obtain ⟨v2_11, ev2_11⟩ : ∃ z : Int32, z = v2 + 1 := ⟨_, rfl⟩
            have hM := on_letE ev2_11 hM
            refine lv_iinc (v := v2_11) (lv' := [(2, .int v2_11), (0, .ref h_t), (1, .int v1)]) hx hb dX5_keptImages_27 hl (k := 2) rfl (by rw [ev2_11]; rfl) (by decide) rfl (fun ls hl => ?_)
            refine lv_goto (tgt := 4) hx hb dX5_keptImages_30 (by decide) ?_
            have hk := on_nxL hM hk
            exact ih v1 v2_11 _ hk K1 _ _ hP hD hS ls (lv_sub hl [1, 2, 0] rfl)
          · have hM := on_pos c_10 hM
            refine lv_iload_n hx hb dX5_keptImages_21 rfl (lv_at hl 1 rfl) ?_
            refine lv_iconst (v := 1) hx hb dX5_keptImages_22 (by decide) ?_
            refine lv_iload_n hx hb dX5_keptImages_23 rfl (lv_at hl 2 rfl) ?_
            refine lv_ishl hx hb dX5_keptImages_24 ?_
            refine lv_ior hx hb dX5_keptImages_25 ?_
            refine lv_topi (fun v1_12 ev1_12 => ?_)
            have hM := on_letE ev1_12 hM
            refine lv_istore_n (lv' := [(1, .int v1_12), (0, .ref h_t), (2, .int v2)]) hx hb dX5_keptImages_26 rfl hl (by decide) rfl (fun ls hl => ?_)
            obtain ⟨v2_13, ev2_13⟩ : ∃ z : Int32, z = v2 + 1 := ⟨_, rfl⟩
            have hM := on_letE ev2_13 hM
            refine lv_iinc (v := v2_13) (lv' := [(2, .int v2_13), (1, .int v1_12), (0, .ref h_t)]) hx hb dX5_keptImages_27 hl (k := 2) rfl (by rw [ev2_13]; rfl) (by decide) rfl (fun ls hl => ?_)
            refine lv_goto (tgt := 4) hx hb dX5_keptImages_30 (by decide) ?_
            have hk := on_nxL hM hk
            exact ih v1_12 v2_13 _ hk K1 _ _ hP hD hS ls (lv_sub hl [2, 1, 0] rfl)
  refine lv_iconst (v := 0) hx hb dX5_keptImages_0 (by decide) ?_
  refine lv_istore_n (lv' := [(1, .int (0 : Int32)), (0, .ref h_t)]) hx hb dX5_keptImages_1 rfl hl (by decide) rfl (fun ls hl => ?_)
  refine lv_iconst (v := 0) hx hb dX5_keptImages_2 (by decide) ?_
  refine lv_istore_n (lv' := [(2, .int (0 : Int32)), (1, .int (0 : Int32)), (0, .ref h_t)]) hx hb dX5_keptImages_3 rfl hl (by decide) rfl (fun ls hl => ?_)
  obtain ⟨q_14, hq_14, hM⟩ := on_bind hM
  refine lp_4  on_F (0 : Int32) (0 : Int32) q_14 hq_14 (fun H locs hP hD hS ls hl => ?_) H locs hP hD hS ls (lv_sub hl [2, 1, 0] rfl)
  refine lv_iload_n hx hb dX5_keptImages_33 rfl (lv_at hl 0 rfl) ?_
  have hM := Option.some.inj hM
  subst hM
  rw [← hQ]
  exact on_iret hx hb hr hlk hP hD hS dX5_keptImages_34
abbrev rm_X5_isMarkedBefore : Room := { frames := 0, cells := 0, slots := 0, locals := 0 }
set_option maxHeartbeats 4000000 in
set_option maxRecDepth 100000 in
theorem k_X5_isMarkedBefore {l : Launch} {D : va_G} {cI cJ cZ cS cA : ClassId} (h_t : Nat) (h_t_now : Nat) (h_t_images : Nat) (h_t_pad : Nat) (h_t_net : Nat) (h_t_second : Nat) (h_t_renumbering : Nat) (h_t_table : Nat) (h_t_marks : Nat) (t_marks : Nat → Int32) (v1 : Int32) (out : Int32) (hM : M_X5_isMarkedBefore v1 t_marks = some out) : on_Con l yX5_isMarkedBefore wsX5_isMarkedBefore rm_X5_isMarkedBefore [.ref h_t, .int v1] D (on_T cI cJ cZ cS cA) [(h_t, .inr (5, [.ref h_t_now, .ref h_t_images, .ref h_t_pad, .ref h_t_net, .ref h_t_second, .ref h_t_renumbering, .ref h_t_table, .ref h_t_marks])), (h_t_marks, .inl (cI, 3, .inl t_marks))] (some (.int out)) [(h_t, .inr (5, [.ref h_t_now, .ref h_t_images, .ref h_t_pad, .ref h_t_net, .ref h_t_second, .ref h_t_renumbering, .ref h_t_table, .ref h_t_marks])), (h_t_marks, .inl (cI, 3, .inl t_marks))] := by
  unfold M_X5_isMarkedBefore at hM
  refine on_enter (cc := cX5_isMarkedBefore) (nL := 3) (rt := (some .boolean)) (own := RX5) (by decide +kernel) rfl rfl (Nat.le_of_ble_eq_true rfl) ?_
  intro p e s m below meth c A ls hx hb hml hr hlk hts hown hA hK hN H locs hP hD hS hl
  have hl : lv_has ls 3 [(0, .ref h_t), (1, .int v1)] := hl
  generalize hQ : MQ below (on_Q D (some (.int out)) [(h_t, .inr (5, [.ref h_t_now, .ref h_t_images, .ref h_t_pad, .ref h_t_net, .ref h_t_second, .ref h_t_renumbering, .ref h_t_table, .ref h_t_marks])), (h_t_marks, .inl (cI, 3, .inl t_marks))] A) _ s 0 0 A = Q
  generalize hAr : List.toArray ([.ref h_t, .int v1] : List Value) = args at hts hQ ⊢
  have w1 := hts (.fieldLink RX5 51 "OddNets" "marks" "[I") (by decide +kernel)
  have w2 : ∀ w ∈ wsX50, w ∈ wsX5_isMarkedBefore := by decide +kernel
  have lp_2 : ∀ (v1 : Int32), ∀ (n : Nat) (v2 : Int32) (x : Int32 ⊕ Unit), on_loop (fun (s : Int32) => B_X5_isMarkedBefore_2 v1 t_marks s) n v2 = some x → (∀ u, x = Sum.inr u → ∀ (H : Heap) (locs : List Loc), va_P D vwCl [(h_t, .inr (5, [.ref h_t_now, .ref h_t_images, .ref h_t_pad, .ref h_t_net, .ref h_t_second, .ref h_t_renumbering, .ref h_t_table, .ref h_t_marks])), (h_t_marks, .inl (cI, 3, .inl t_marks))] H → va_D A [(h_t, .inr (5, [.ref h_t_now, .ref h_t_images, .ref h_t_pad, .ref h_t_net, .ref h_t_second, .ref h_t_renumbering, .ref h_t_table, .ref h_t_marks])), (h_t_marks, .inl (cI, 3, .inl t_marks))] → va_S A s.heap H locs → ∀ ls : Array Slot, lv_has ls 3 [] → W p l e rm_X5_isMarkedBefore s m args below meth c H locs 0 0 Q (F0 m 30 ls [])) → (∀ o, x = Sum.inl o → o = out) → ∀ (H : Heap) (locs : List Loc), va_P D vwCl [(h_t, .inr (5, [.ref h_t_now, .ref h_t_images, .ref h_t_pad, .ref h_t_net, .ref h_t_second, .ref h_t_renumbering, .ref h_t_table, .ref h_t_marks])), (h_t_marks, .inl (cI, 3, .inl t_marks))] H → va_D A [(h_t, .inr (5, [.ref h_t_now, .ref h_t_images, .ref h_t_pad, .ref h_t_net, .ref h_t_second, .ref h_t_renumbering, .ref h_t_table, .ref h_t_marks])), (h_t_marks, .inl (cI, 3, .inl t_marks))] → va_S A s.heap H locs → ∀ ls : Array Slot, lv_has ls 3 [(0, .ref h_t), (1, .int v1), (2, .int v2)] → W p l e rm_X5_isMarkedBefore s m args below meth c H locs 0 0 Q (F0 m 2 ls []) := by
    intro v1
    intro n
    induction n with
    | zero =>
      intro v2 x hL
      exact (on_loop0 hL).elim
    | succ n ih =>
      intro v2 x hL K1 K2 H locs hP hD hS ls hl
      obtain ⟨y, hM, hk⟩ := on_loopE hL
      have hM : B_X5_isMarkedBefore_2 v1 t_marks v2 = some y := hM
      unfold B_X5_isMarkedBefore_2 at hM
      refine lv_iload_n hx hb dX5_isMarkedBefore_2 rfl (lv_at hl 2 rfl) ?_
      refine lv_iload_n hx hb dX5_isMarkedBefore_3 rfl (lv_at hl 1 rfl) ?_
      refine lv_icmp_ge (tgt := 30) hx hb dX5_isMarkedBefore_4 (by decide) (fun c_1 => ?_) (fun c_1 => ?_)
      · have hM := on_pos c_1 hM
        have hk := on_nxR hM hk
        subst hk
        exact K1 _ rfl _ _ hP hD hS ls (lv_sub hl [] rfl)
      · have hM := on_neg c_1 hM
        refine lv_aload_n hx hb dX5_isMarkedBefore_7 rfl (lv_at hl 0 rfl) ?_
        refine va_get (D := D) (ci := 5) (v := .ref h_t_marks) (C := RX5) (T := TX5) (N := 8) hx hb hts w2 hown hK hP 0 rfl rfl 7 (by decide) w1 (fun _ h9 => h9) rfl dX5_isMarkedBefore_8 ?_
        refine lv_iload_n hx hb dX5_isMarkedBefore_11 rfl (lv_at hl 2 rfl) ?_
        obtain ⟨g_2, hM⟩ := on_gdE hM
        refine va_iald hx hb hK hP 1 0 rfl rfl (on_ixE g_2) dX5_isMarkedBefore_12 ?_
        refine lv_aload_n hx hb dX5_isMarkedBefore_13 rfl (lv_at hl 0 rfl) ?_
        refine va_get (D := D) (ci := 5) (v := .ref h_t_marks) (C := RX5) (T := TX5) (N := 8) hx hb hts w2 hown hK hP 0 rfl rfl 7 (by decide) w1 (fun _ h9 => h9) rfl dX5_isMarkedBefore_14 ?_
        refine lv_iload_n hx hb dX5_isMarkedBefore_17 rfl (lv_at hl 1 rfl) ?_
        obtain ⟨g_3, hM⟩ := on_gdE hM
        refine va_iald hx hb hK hP 1 0 rfl rfl (on_ixE g_3) dX5_isMarkedBefore_18 ?_
        refine lv_icmp_ne (tgt := 24) hx hb dX5_isMarkedBefore_19 (by decide) (fun c_4 => ?_) (fun c_4 => ?_)
        · have hM := on_neg c_4 hM
          obtain ⟨v2_5, ev2_5⟩ : ∃ z : Int32, z = v2 + 1 := ⟨_, rfl⟩
          have hM := on_letE ev2_5 hM
          refine lv_iinc (v := v2_5) (lv' := [(2, .int v2_5), (0, .ref h_t), (1, .int v1)]) hx hb dX5_isMarkedBefore_24 hl (k := 2) rfl (by rw [ev2_5]; rfl) (by decide) rfl (fun ls hl => ?_)
          refine lv_goto (tgt := 2) hx hb dX5_isMarkedBefore_27 (by decide) ?_
          have hk := on_nxL hM hk
          exact ih v2_5 _ hk K1 K2 _ _ hP hD hS ls (lv_sub hl [1, 2, 0] rfl)
        · have hM := on_pos c_4 hM
          refine lv_iconst (v := 1) hx hb dX5_isMarkedBefore_22 (by decide) ?_
          have hk := on_nxR hM hk
          subst hk
          have ho := K2 _ rfl
          subst ho
          rw [← hQ]
          exact on_zret hx hb hr hlk hP hD hS rfl dX5_isMarkedBefore_23
  refine lv_iconst (v := 0) hx hb dX5_isMarkedBefore_0 (by decide) ?_
  refine lv_istore_n (lv' := [(2, .int (0 : Int32)), (0, .ref h_t), (1, .int v1)]) hx hb dX5_isMarkedBefore_1 rfl hl (by decide) rfl (fun ls hl => ?_)
  obtain ⟨q_6, hq_6, hM⟩ := on_bind hM
  refine lp_2 v1 on_F (0 : Int32) q_6 hq_6 (fun u_7 hv H locs hP hD hS ls hl => ?_) (fun o ho => ?_) H locs hP hD hS ls (lv_sub hl [1, 2, 0] rfl)
  · subst hv
    have hM := on_elR hM
    refine lv_iconst (v := 0) hx hb dX5_isMarkedBefore_30 (by decide) ?_
    have hM := Option.some.inj hM
    subst hM
    rw [← hQ]
    exact on_zret hx hb hr hlk hP hD hS rfl dX5_isMarkedBefore_31
  · subst ho
    have hM := on_elL hM
    exact Option.some.inj hM
abbrev rm_X5_differentMarks : Room := { frames := 1, cells := 0, slots := 0, locals := 22 }
set_option maxHeartbeats 4000000 in
set_option maxRecDepth 100000 in
theorem k_X5_differentMarks {l : Launch} {D : va_G} {cI cJ cZ cS cA : ClassId} (h_t : Nat) (h_t_now : Nat) (h_t_images : Nat) (h_t_pad : Nat) (h_t_net : Nat) (h_t_second : Nat) (h_t_renumbering : Nat) (h_t_table : Nat) (h_t_marks : Nat) (t_marks : Nat → Int32)  (out : Int32) (hM : M_X5_differentMarks t_marks = some out) : on_Con l yX5_differentMarks wsX5_differentMarks rm_X5_differentMarks [.ref h_t] D (on_T cI cJ cZ cS cA) [(h_t, .inr (5, [.ref h_t_now, .ref h_t_images, .ref h_t_pad, .ref h_t_net, .ref h_t_second, .ref h_t_renumbering, .ref h_t_table, .ref h_t_marks])), (h_t_marks, .inl (cI, 3, .inl t_marks))] (some (.int out)) [(h_t, .inr (5, [.ref h_t_now, .ref h_t_images, .ref h_t_pad, .ref h_t_net, .ref h_t_second, .ref h_t_renumbering, .ref h_t_table, .ref h_t_marks])), (h_t_marks, .inl (cI, 3, .inl t_marks))] := by
  unfold M_X5_differentMarks at hM
  refine on_enter (cc := cX5_differentMarks) (nL := 3) (rt := (some .int)) (own := RX5) (by decide +kernel) rfl rfl (Nat.le_of_ble_eq_true rfl) ?_
  intro p e s m below meth c A ls hx hb hml hr hlk hts hown hA hK hN H locs hP hD hS hl
  have hl : lv_has ls 3 [(0, .ref h_t)] := hl
  generalize hQ : MQ below (on_Q D (some (.int out)) [(h_t, .inr (5, [.ref h_t_now, .ref h_t_images, .ref h_t_pad, .ref h_t_net, .ref h_t_second, .ref h_t_renumbering, .ref h_t_table, .ref h_t_marks])), (h_t_marks, .inl (cI, 3, .inl t_marks))] A) _ s 0 0 A = Q
  generalize hAr : List.toArray ([.ref h_t] : List Value) = args at hts hQ ⊢
  have lp_4 : ∀ (n : Nat) (v1 : Int32) (v2 : Int32) (x : Int32), on_loop (fun (s : Int32 × Int32) => B_X5_differentMarks_4 t_marks s.1 s.2) n (v1, v2) = some x → (∀ (H : Heap) (locs : List Loc), va_P D vwCl [(h_t, .inr (5, [.ref h_t_now, .ref h_t_images, .ref h_t_pad, .ref h_t_net, .ref h_t_second, .ref h_t_renumbering, .ref h_t_table, .ref h_t_marks])), (h_t_marks, .inl (cI, 3, .inl t_marks))] H → va_D A [(h_t, .inr (5, [.ref h_t_now, .ref h_t_images, .ref h_t_pad, .ref h_t_net, .ref h_t_second, .ref h_t_renumbering, .ref h_t_table, .ref h_t_marks])), (h_t_marks, .inl (cI, 3, .inl t_marks))] → va_S A s.heap H locs → ∀ ls : Array Slot, lv_has ls 3 [(1, .int x)] → W p l e rm_X5_differentMarks s m args below meth c H locs 0 0 Q (F0 m 26 ls [])) → ∀ (H : Heap) (locs : List Loc), va_P D vwCl [(h_t, .inr (5, [.ref h_t_now, .ref h_t_images, .ref h_t_pad, .ref h_t_net, .ref h_t_second, .ref h_t_renumbering, .ref h_t_table, .ref h_t_marks])), (h_t_marks, .inl (cI, 3, .inl t_marks))] H → va_D A [(h_t, .inr (5, [.ref h_t_now, .ref h_t_images, .ref h_t_pad, .ref h_t_net, .ref h_t_second, .ref h_t_renumbering, .ref h_t_table, .ref h_t_marks])), (h_t_marks, .inl (cI, 3, .inl t_marks))] → va_S A s.heap H locs → ∀ ls : Array Slot, lv_has ls 3 [(0, .ref h_t), (1, .int v1), (2, .int v2)] → W p l e rm_X5_differentMarks s m args below meth c H locs 0 0 Q (F0 m 4 ls []) := by
    intro n
    induction n with
    | zero =>
      intro v1 v2 x hL
      exact (on_loop0 hL).elim
    | succ n ih =>
      intro v1 v2 x hL K1 H locs hP hD hS ls hl
      obtain ⟨y, hM, hk⟩ := on_loopE hL
      have hM : B_X5_differentMarks_4 t_marks v1 v2 = some y := hM
      unfold B_X5_differentMarks_4 at hM
      refine lv_iload_n hx hb dX5_differentMarks_4 rfl (lv_at hl 2 rfl) ?_
      refine lv_iconst (v := 3) hx hb dX5_differentMarks_5 (by decide) ?_
      refine lv_icmp_ge (tgt := 26) hx hb dX5_differentMarks_6 (by decide) (fun c_1 => ?_) (fun c_1 => ?_)
      · have hM := on_pos c_1 hM
        have hk := on_nxR hM hk
        subst hk
        exact K1 _ _ hP hD hS ls (lv_sub hl [1] rfl)
      · have hM := on_neg c_1 hM
        refine lv_aload_n hx hb dX5_differentMarks_9 rfl (lv_at hl 0 rfl) ?_
        refine lv_iload_n hx hb dX5_differentMarks_10 rfl (lv_at hl 2 rfl) ?_
        obtain ⟨q_2, hq_2, hM⟩ := on_bind hM
        refine on_callV (rest := []) (As := [.int v2]) (st1 := [.int q_2]) (C := RX5) (ci := 5) (q0 := 0) (wc := [(h_t, .inr (5, [.ref h_t_now, .ref h_t_images, .ref h_t_pad, .ref h_t_net, .ref h_t_second, .ref h_t_renumbering, .ref h_t_table, .ref h_t_marks])), (h_t_marks, .inl (cI, 3, .inl t_marks))]) (wr := []) (wc' := [(h_t, .inr (5, [.ref h_t_now, .ref h_t_images, .ref h_t_pad, .ref h_t_net, .ref h_t_second, .ref h_t_renumbering, .ref h_t_table, .ref h_t_marks])), (h_t_marks, .inl (cI, 3, .inl t_marks))]) (wf := [(h_t, .inr (5, [.ref h_t_now, .ref h_t_images, .ref h_t_pad, .ref h_t_net, .ref h_t_second, .ref h_t_renumbering, .ref h_t_table, .ref h_t_marks])), (h_t_marks, .inl (cI, 3, .inl t_marks))]) (rt := (some (.int q_2))) ⟨hx, hb, hml, hown, hts⟩ (k_X5_isMarkedBefore h_t h_t_now h_t_images h_t_pad h_t_net h_t_second h_t_renumbering h_t_table h_t_marks t_marks v2 q_2 hq_2) (cwV 1 hts gX5_differentMarks_X5_isMarkedBefore rfl rfl rfl ⟨rfl, hdX5_isMarkedBefore⟩ ⟨(Nat.le_of_ble_eq_true rfl), (Nat.le_of_ble_eq_true rfl)⟩) hK hN hP hD hS hA [0, 1] [] [0, 1] rfl rfl rfl rfl (by decide) rfl rfl rfl rfl rfl rfl hl.1 rfl (Nat.le_of_ble_eq_true rfl) rfl dX5_differentMarks_11 ⟨Nat.zero_le _, Nat.zero_le _⟩ (fun H locs hP hD hS => ?_)
        refine lv_if_ne (tgt := 20) hx hb dX5_differentMarks_14 (by decide) (fun c_3 => ?_) (fun c_3 => ?_)
        · have hM := on_neg c_3 hM
          obtain ⟨v2_4, ev2_4⟩ : ∃ z : Int32, z = v2 + 1 := ⟨_, rfl⟩
          have hM := on_letE ev2_4 hM
          refine lv_iinc (v := v2_4) (lv' := [(2, .int v2_4), (0, .ref h_t), (1, .int v1)]) hx hb dX5_differentMarks_20 hl (k := 2) rfl (by rw [ev2_4]; rfl) (by decide) rfl (fun ls hl => ?_)
          refine lv_goto (tgt := 4) hx hb dX5_differentMarks_23 (by decide) ?_
          have hk := on_nxL hM hk
          exact ih v1 v2_4 _ hk K1 _ _ hP hD hS ls (lv_sub hl [1, 2, 0] rfl)
        · have hM := on_pos c_3 hM
          obtain ⟨v1_5, ev1_5⟩ : ∃ z : Int32, z = v1 + 1 := ⟨_, rfl⟩
          have hM := on_letE ev1_5 hM
          refine lv_iinc (v := v1_5) (lv' := [(1, .int v1_5), (0, .ref h_t), (2, .int v2)]) hx hb dX5_differentMarks_17 hl (k := 1) rfl (by rw [ev1_5]; rfl) (by decide) rfl (fun ls hl => ?_)
          obtain ⟨v2_6, ev2_6⟩ : ∃ z : Int32, z = v2 + 1 := ⟨_, rfl⟩
          have hM := on_letE ev2_6 hM
          refine lv_iinc (v := v2_6) (lv' := [(2, .int v2_6), (1, .int v1_5), (0, .ref h_t)]) hx hb dX5_differentMarks_20 hl (k := 2) rfl (by rw [ev2_6]; rfl) (by decide) rfl (fun ls hl => ?_)
          refine lv_goto (tgt := 4) hx hb dX5_differentMarks_23 (by decide) ?_
          have hk := on_nxL hM hk
          exact ih v1_5 v2_6 _ hk K1 _ _ hP hD hS ls (lv_sub hl [2, 1, 0] rfl)
  refine lv_iconst (v := 0) hx hb dX5_differentMarks_0 (by decide) ?_
  refine lv_istore_n (lv' := [(1, .int (0 : Int32)), (0, .ref h_t)]) hx hb dX5_differentMarks_1 rfl hl (by decide) rfl (fun ls hl => ?_)
  refine lv_iconst (v := 0) hx hb dX5_differentMarks_2 (by decide) ?_
  refine lv_istore_n (lv' := [(2, .int (0 : Int32)), (1, .int (0 : Int32)), (0, .ref h_t)]) hx hb dX5_differentMarks_3 rfl hl (by decide) rfl (fun ls hl => ?_)
  obtain ⟨q_7, hq_7, hM⟩ := on_bind hM
  refine lp_4  on_F (0 : Int32) (0 : Int32) q_7 hq_7 (fun H locs hP hD hS ls hl => ?_) H locs hP hD hS ls (lv_sub hl [2, 1, 0] rfl)
  refine lv_iload_n hx hb dX5_differentMarks_26 rfl (lv_at hl 0 rfl) ?_
  have hM := Option.some.inj hM
  subst hM
  rw [← hQ]
  exact on_iret hx hb hr hlk hP hD hS dX5_differentMarks_27
abbrev rm_X5_differentKinds : Room := { frames := 14, cells := 0, slots := 0, locals := 374 }
set_option maxHeartbeats 4000000 in
set_option maxRecDepth 100000 in
theorem k_X5_differentKinds {l : Launch} {D : va_G} {cI cJ cZ cS cA : ClassId} (h_t : Nat) (h_t_now : Nat) (h_t_images : Nat) (h_t_pad : Nat) (h_t_net : Nat) (h_t_second : Nat) (h_t_renumbering : Nat) (h_t_table : Nat) (h_t_marks : Nat) (h_t_now_numbers : Nat) (h_t_net_rows : Nat) (h_t_renumbering_at : Nat) (t_now_many : Int32) (t_now_numbers : Nat → Int32) (t_net_many : Int32) (t_net_rows : Nat → Int32) (t_renumbering_at : Nat → Int32) (t_marks : Nat → Int32)  (out : Int32 × Int32 × (Nat → Int32) × (Nat → Int32) × (Nat → Int32)) (hM : M_X5_differentKinds t_now_many t_now_numbers t_net_many t_net_rows t_renumbering_at t_marks = some out) : on_Con l yX5_differentKinds wsX5_differentKinds rm_X5_differentKinds [.ref h_t] D (on_T cI cJ cZ cS cA) [(h_t, .inr (5, [.ref h_t_now, .ref h_t_images, .ref h_t_pad, .ref h_t_net, .ref h_t_second, .ref h_t_renumbering, .ref h_t_table, .ref h_t_marks])), (h_t_now, .inr (3, [.int t_now_many, .ref h_t_now_numbers])), (h_t_now_numbers, .inl (cI, 3, .inl t_now_numbers)), (h_t_net, .inr (0, [.int t_net_many, .ref h_t_net_rows])), (h_t_net_rows, .inl (cI, 7, .inl t_net_rows)), (h_t_renumbering, .inr (2, [.ref h_t_renumbering_at])), (h_t_renumbering_at, .inl (cI, 7, .inl t_renumbering_at)), (h_t_marks, .inl (cI, 3, .inl t_marks))] (some (.int out.1)) [(h_t, .inr (5, [.ref h_t_now, .ref h_t_images, .ref h_t_pad, .ref h_t_net, .ref h_t_second, .ref h_t_renumbering, .ref h_t_table, .ref h_t_marks])), (h_t_now, .inr (3, [.int t_now_many, .ref h_t_now_numbers])), (h_t_now_numbers, .inl (cI, 3, .inl t_now_numbers)), (h_t_net, .inr (0, [.int out.2.1, .ref h_t_net_rows])), (h_t_net_rows, .inl (cI, 7, .inl out.2.2.1)), (h_t_renumbering, .inr (2, [.ref h_t_renumbering_at])), (h_t_renumbering_at, .inl (cI, 7, .inl out.2.2.2.1)), (h_t_marks, .inl (cI, 3, .inl out.2.2.2.2))] := by
  unfold M_X5_differentKinds at hM
  refine on_enter (cc := cX5_differentKinds) (nL := 2) (rt := (some .int)) (own := RX5) (by decide +kernel) rfl rfl (Nat.le_of_ble_eq_true rfl) ?_
  intro p e s m below meth c A ls hx hb hml hr hlk hts hown hA hK hN H locs hP hD hS hl
  have hl : lv_has ls 2 [(0, .ref h_t)] := hl
  generalize hQ : MQ below (on_Q D (some (.int out.1)) [(h_t, .inr (5, [.ref h_t_now, .ref h_t_images, .ref h_t_pad, .ref h_t_net, .ref h_t_second, .ref h_t_renumbering, .ref h_t_table, .ref h_t_marks])), (h_t_now, .inr (3, [.int t_now_many, .ref h_t_now_numbers])), (h_t_now_numbers, .inl (cI, 3, .inl t_now_numbers)), (h_t_net, .inr (0, [.int out.2.1, .ref h_t_net_rows])), (h_t_net_rows, .inl (cI, 7, .inl out.2.2.1)), (h_t_renumbering, .inr (2, [.ref h_t_renumbering_at])), (h_t_renumbering_at, .inl (cI, 7, .inl out.2.2.2.1)), (h_t_marks, .inl (cI, 3, .inl out.2.2.2.2))] A) _ s 0 0 A = Q
  generalize hAr : List.toArray ([.ref h_t] : List Value) = args at hts hQ ⊢
  have w1 := hts (.fieldLink RX5 51 "OddNets" "marks" "[I") (by decide +kernel)
  have w2 : ∀ w ∈ wsX50, w ∈ wsX5_differentKinds := by decide +kernel
  have lp_2 : ∀ (n : Nat) (v1 : Int32) (t_net_many : Int32) (t_net_rows : Nat → Int32) (t_renumbering_at : Nat → Int32) (t_marks : Nat → Int32) (x : Int32 × (Nat → Int32) × (Nat → Int32) × (Nat → Int32)), on_loop (fun (s : Int32 × Int32 × (Nat → Int32) × (Nat → Int32) × (Nat → Int32)) => B_X5_differentKinds_2 t_now_many t_now_numbers s.1 s.2.1 s.2.2.1 s.2.2.2.1 s.2.2.2.2) n (v1, t_net_many, t_net_rows, t_renumbering_at, t_marks) = some x → (∀ (H : Heap) (locs : List Loc), va_P D vwCl [(h_t, .inr (5, [.ref h_t_now, .ref h_t_images, .ref h_t_pad, .ref h_t_net, .ref h_t_second, .ref h_t_renumbering, .ref h_t_table, .ref h_t_marks])), (h_t_now, .inr (3, [.int t_now_many, .ref h_t_now_numbers])), (h_t_now_numbers, .inl (cI, 3, .inl t_now_numbers)), (h_t_net, .inr (0, [.int x.1, .ref h_t_net_rows])), (h_t_net_rows, .inl (cI, 7, .inl x.2.1)), (h_t_renumbering, .inr (2, [.ref h_t_renumbering_at])), (h_t_renumbering_at, .inl (cI, 7, .inl x.2.2.1)), (h_t_marks, .inl (cI, 3, .inl x.2.2.2))] H → va_D A [(h_t, .inr (5, [.ref h_t_now, .ref h_t_images, .ref h_t_pad, .ref h_t_net, .ref h_t_second, .ref h_t_renumbering, .ref h_t_table, .ref h_t_marks])), (h_t_now, .inr (3, [.int t_now_many, .ref h_t_now_numbers])), (h_t_now_numbers, .inl (cI, 3, .inl t_now_numbers)), (h_t_net, .inr (0, [.int x.1, .ref h_t_net_rows])), (h_t_net_rows, .inl (cI, 7, .inl x.2.1)), (h_t_renumbering, .inr (2, [.ref h_t_renumbering_at])), (h_t_renumbering_at, .inl (cI, 7, .inl x.2.2.1)), (h_t_marks, .inl (cI, 3, .inl x.2.2.2))] → va_S A s.heap H locs → ∀ ls : Array Slot, lv_has ls 2 [(0, .ref h_t)] → W p l e rm_X5_differentKinds s m args below meth c H locs 0 0 Q (F0 m 24 ls [])) → ∀ (H : Heap) (locs : List Loc), va_P D vwCl [(h_t, .inr (5, [.ref h_t_now, .ref h_t_images, .ref h_t_pad, .ref h_t_net, .ref h_t_second, .ref h_t_renumbering, .ref h_t_table, .ref h_t_marks])), (h_t_now, .inr (3, [.int t_now_many, .ref h_t_now_numbers])), (h_t_now_numbers, .inl (cI, 3, .inl t_now_numbers)), (h_t_net, .inr (0, [.int t_net_many, .ref h_t_net_rows])), (h_t_net_rows, .inl (cI, 7, .inl t_net_rows)), (h_t_renumbering, .inr (2, [.ref h_t_renumbering_at])), (h_t_renumbering_at, .inl (cI, 7, .inl t_renumbering_at)), (h_t_marks, .inl (cI, 3, .inl t_marks))] H → va_D A [(h_t, .inr (5, [.ref h_t_now, .ref h_t_images, .ref h_t_pad, .ref h_t_net, .ref h_t_second, .ref h_t_renumbering, .ref h_t_table, .ref h_t_marks])), (h_t_now, .inr (3, [.int t_now_many, .ref h_t_now_numbers])), (h_t_now_numbers, .inl (cI, 3, .inl t_now_numbers)), (h_t_net, .inr (0, [.int t_net_many, .ref h_t_net_rows])), (h_t_net_rows, .inl (cI, 7, .inl t_net_rows)), (h_t_renumbering, .inr (2, [.ref h_t_renumbering_at])), (h_t_renumbering_at, .inl (cI, 7, .inl t_renumbering_at)), (h_t_marks, .inl (cI, 3, .inl t_marks))] → va_S A s.heap H locs → ∀ ls : Array Slot, lv_has ls 2 [(0, .ref h_t), (1, .int v1)] → W p l e rm_X5_differentKinds s m args below meth c H locs 0 0 Q (F0 m 2 ls []) := by
    intro n
    induction n with
    | zero =>
      intro v1 t_net_many t_net_rows t_renumbering_at t_marks x hL
      exact (on_loop0 hL).elim
    | succ n ih =>
      intro v1 t_net_many t_net_rows t_renumbering_at t_marks x hL K1 H locs hP hD hS ls hl
      obtain ⟨y, hM, hk⟩ := on_loopE hL
      have hM : B_X5_differentKinds_2 t_now_many t_now_numbers v1 t_net_many t_net_rows t_renumbering_at t_marks = some y := hM
      unfold B_X5_differentKinds_2 at hM
      refine lv_iload_n hx hb dX5_differentKinds_2 rfl (lv_at hl 1 rfl) ?_
      refine lv_iconst (v := 3) hx hb dX5_differentKinds_3 (by decide) ?_
      refine lv_icmp_ge (tgt := 24) hx hb dX5_differentKinds_4 (by decide) (fun c_1 => ?_) (fun c_1 => ?_)
      · have hM := on_pos c_1 hM
        have hk := on_nxR hM hk
        subst hk
        exact K1 _ _ hP hD hS ls (lv_sub hl [0] rfl)
      · have hM := on_neg c_1 hM
        refine lv_aload_n hx hb dX5_differentKinds_7 rfl (lv_at hl 0 rfl) ?_
        refine va_get (D := D) (ci := 5) (v := .ref h_t_marks) (C := RX5) (T := TX5) (N := 8) hx hb hts w2 hown hK hP 0 rfl rfl 7 (by decide) w1 (fun _ h9 => h9) rfl dX5_differentKinds_8 ?_
        refine lv_iload_n hx hb dX5_differentKinds_11 rfl (lv_at hl 1 rfl) ?_
        refine lv_aload_n hx hb dX5_differentKinds_12 rfl (lv_at hl 0 rfl) ?_
        refine lv_iload_n hx hb dX5_differentKinds_13 rfl (lv_at hl 1 rfl) ?_
        obtain ⟨q_2, hq_2, hM⟩ := on_bind hM
        refine on_callV (rest := [.int v1, .ref h_t_marks]) (As := [.int v1]) (st1 := [.int q_2.1, .int v1, .ref h_t_marks]) (C := RX5) (ci := 5) (q0 := 0) (wc := [(h_t, .inr (5, [.ref h_t_now, .ref h_t_images, .ref h_t_pad, .ref h_t_net, .ref h_t_second, .ref h_t_renumbering, .ref h_t_table, .ref h_t_marks])), (h_t_now, .inr (3, [.int t_now_many, .ref h_t_now_numbers])), (h_t_now_numbers, .inl (cI, 3, .inl t_now_numbers)), (h_t_net, .inr (0, [.int t_net_many, .ref h_t_net_rows])), (h_t_net_rows, .inl (cI, 7, .inl t_net_rows)), (h_t_renumbering, .inr (2, [.ref h_t_renumbering_at])), (h_t_renumbering_at, .inl (cI, 7, .inl t_renumbering_at))]) (wr := [(h_t_marks, .inl (cI, 3, .inl t_marks))]) (wc' := [(h_t, .inr (5, [.ref h_t_now, .ref h_t_images, .ref h_t_pad, .ref h_t_net, .ref h_t_second, .ref h_t_renumbering, .ref h_t_table, .ref h_t_marks])), (h_t_now, .inr (3, [.int t_now_many, .ref h_t_now_numbers])), (h_t_now_numbers, .inl (cI, 3, .inl t_now_numbers)), (h_t_net, .inr (0, [.int q_2.2.1, .ref h_t_net_rows])), (h_t_net_rows, .inl (cI, 7, .inl q_2.2.2.1)), (h_t_renumbering, .inr (2, [.ref h_t_renumbering_at])), (h_t_renumbering_at, .inl (cI, 7, .inl q_2.2.2.2))]) (wf := [(h_t, .inr (5, [.ref h_t_now, .ref h_t_images, .ref h_t_pad, .ref h_t_net, .ref h_t_second, .ref h_t_renumbering, .ref h_t_table, .ref h_t_marks])), (h_t_now, .inr (3, [.int t_now_many, .ref h_t_now_numbers])), (h_t_now_numbers, .inl (cI, 3, .inl t_now_numbers)), (h_t_net, .inr (0, [.int q_2.2.1, .ref h_t_net_rows])), (h_t_net_rows, .inl (cI, 7, .inl q_2.2.2.1)), (h_t_renumbering, .inr (2, [.ref h_t_renumbering_at])), (h_t_renumbering_at, .inl (cI, 7, .inl q_2.2.2.2)), (h_t_marks, .inl (cI, 3, .inl t_marks))]) (rt := (some (.int q_2.1))) ⟨hx, hb, hml, hown, hts⟩ (k_X5_kindOfSlot h_t h_t_now h_t_images h_t_pad h_t_net h_t_second h_t_renumbering h_t_table h_t_marks h_t_now_numbers h_t_net_rows h_t_renumbering_at t_now_many t_now_numbers t_net_many t_net_rows t_renumbering_at v1 q_2 hq_2) (cwV 1 hts gX5_differentKinds_X5_kindOfSlot rfl rfl rfl ⟨rfl, hdX5_kindOfSlot⟩ ⟨(Nat.le_of_ble_eq_true rfl), (Nat.le_of_ble_eq_true rfl)⟩) hK hN hP hD hS hA [0, 1, 2, 3, 4, 5, 6] [7] [1, 2, 3, 4, 5, 6, 7, 0] rfl rfl rfl rfl (by decide) rfl rfl rfl rfl rfl rfl hl.1 rfl (Nat.le_of_ble_eq_true rfl) rfl dX5_differentKinds_14 ⟨Nat.zero_le _, Nat.zero_le _⟩ (fun H locs hP hD hS => ?_)
        obtain ⟨g_3, hM⟩ := on_gdE hM
        refine va_iast hx hb hK hP hD hS 7 0 rfl rfl (on_ixE g_3) dX5_differentKinds_17 (fun H locs hP hD hS => ?_)
        have hP : va_P D vwCl [(h_t, .inr (5, [.ref h_t_now, .ref h_t_images, .ref h_t_pad, .ref h_t_net, .ref h_t_second, .ref h_t_renumbering, .ref h_t_table, .ref h_t_marks])), (h_t_now, .inr (3, [.int t_now_many, .ref h_t_now_numbers])), (h_t_now_numbers, .inl (cI, 3, .inl t_now_numbers)), (h_t_net, .inr (0, [.int q_2.2.1, .ref h_t_net_rows])), (h_t_net_rows, .inl (cI, 7, .inl q_2.2.2.1)), (h_t_renumbering, .inr (2, [.ref h_t_renumbering_at])), (h_t_renumbering_at, .inl (cI, 7, .inl q_2.2.2.2)), (h_t_marks, .inl (cI, 3, .inl (upd t_marks (Int32.toNatClampNeg v1) q_2.1)))] H := hP
        have hD : va_D A [(h_t, .inr (5, [.ref h_t_now, .ref h_t_images, .ref h_t_pad, .ref h_t_net, .ref h_t_second, .ref h_t_renumbering, .ref h_t_table, .ref h_t_marks])), (h_t_now, .inr (3, [.int t_now_many, .ref h_t_now_numbers])), (h_t_now_numbers, .inl (cI, 3, .inl t_now_numbers)), (h_t_net, .inr (0, [.int q_2.2.1, .ref h_t_net_rows])), (h_t_net_rows, .inl (cI, 7, .inl q_2.2.2.1)), (h_t_renumbering, .inr (2, [.ref h_t_renumbering_at])), (h_t_renumbering_at, .inl (cI, 7, .inl q_2.2.2.2)), (h_t_marks, .inl (cI, 3, .inl (upd t_marks (Int32.toNatClampNeg v1) q_2.1)))] := hD
        obtain ⟨v1_4, ev1_4⟩ : ∃ z : Int32, z = v1 + 1 := ⟨_, rfl⟩
        have hM := on_letE ev1_4 hM
        refine lv_iinc (v := v1_4) (lv' := [(1, .int v1_4), (0, .ref h_t)]) hx hb dX5_differentKinds_18 hl (k := 1) rfl (by rw [ev1_4]; rfl) (by decide) rfl (fun ls hl => ?_)
        refine lv_goto (tgt := 2) hx hb dX5_differentKinds_21 (by decide) ?_
        have hk := on_nxL hM hk
        exact ih v1_4 q_2.2.1 q_2.2.2.1 q_2.2.2.2 (upd t_marks (Int32.toNatClampNeg v1) q_2.1) _ hk K1 _ _ hP hD hS ls (lv_sub hl [1, 0] rfl)
  refine lv_iconst (v := 0) hx hb dX5_differentKinds_0 (by decide) ?_
  refine lv_istore_n (lv' := [(1, .int (0 : Int32)), (0, .ref h_t)]) hx hb dX5_differentKinds_1 rfl hl (by decide) rfl (fun ls hl => ?_)
  obtain ⟨q_5, hq_5, hM⟩ := on_bind hM
  refine lp_2  on_F (0 : Int32) t_net_many t_net_rows t_renumbering_at t_marks q_5 hq_5 (fun H locs hP hD hS ls hl => ?_) H locs hP hD hS ls (lv_sub hl [1, 0] rfl)
  refine lv_aload_n hx hb dX5_differentKinds_24 rfl (lv_at hl 0 rfl) ?_
  obtain ⟨q_6, hq_6, hM⟩ := on_bind hM
  refine on_callV (rest := []) (As := []) (st1 := [.int q_6]) (C := RX5) (ci := 5) (q0 := 0) (wc := [(h_t, .inr (5, [.ref h_t_now, .ref h_t_images, .ref h_t_pad, .ref h_t_net, .ref h_t_second, .ref h_t_renumbering, .ref h_t_table, .ref h_t_marks])), (h_t_marks, .inl (cI, 3, .inl q_5.2.2.2))]) (wr := [(h_t_now, .inr (3, [.int t_now_many, .ref h_t_now_numbers])), (h_t_now_numbers, .inl (cI, 3, .inl t_now_numbers)), (h_t_net, .inr (0, [.int q_5.1, .ref h_t_net_rows])), (h_t_net_rows, .inl (cI, 7, .inl q_5.2.1)), (h_t_renumbering, .inr (2, [.ref h_t_renumbering_at])), (h_t_renumbering_at, .inl (cI, 7, .inl q_5.2.2.1))]) (wc' := [(h_t, .inr (5, [.ref h_t_now, .ref h_t_images, .ref h_t_pad, .ref h_t_net, .ref h_t_second, .ref h_t_renumbering, .ref h_t_table, .ref h_t_marks])), (h_t_marks, .inl (cI, 3, .inl q_5.2.2.2))]) (wf := [(h_t, .inr (5, [.ref h_t_now, .ref h_t_images, .ref h_t_pad, .ref h_t_net, .ref h_t_second, .ref h_t_renumbering, .ref h_t_table, .ref h_t_marks])), (h_t_now, .inr (3, [.int t_now_many, .ref h_t_now_numbers])), (h_t_now_numbers, .inl (cI, 3, .inl t_now_numbers)), (h_t_net, .inr (0, [.int q_5.1, .ref h_t_net_rows])), (h_t_net_rows, .inl (cI, 7, .inl q_5.2.1)), (h_t_renumbering, .inr (2, [.ref h_t_renumbering_at])), (h_t_renumbering_at, .inl (cI, 7, .inl q_5.2.2.1)), (h_t_marks, .inl (cI, 3, .inl q_5.2.2.2))]) (rt := (some (.int q_6))) ⟨hx, hb, hml, hown, hts⟩ (k_X5_differentMarks h_t h_t_now h_t_images h_t_pad h_t_net h_t_second h_t_renumbering h_t_table h_t_marks q_5.2.2.2 q_6 hq_6) (cwV 0 hts gX5_differentKinds_X5_differentMarks rfl rfl rfl ⟨rfl, hdX5_differentMarks⟩ ⟨(Nat.le_of_ble_eq_true rfl), (Nat.le_of_ble_eq_true rfl)⟩) hK hN hP hD hS hA [0, 7] [1, 2, 3, 4, 5, 6] [6, 0, 1, 2, 3, 4, 5, 7] rfl rfl rfl rfl (by decide) rfl rfl rfl rfl rfl rfl hl.1 rfl (Nat.le_of_ble_eq_true rfl) rfl dX5_differentKinds_25 ⟨Nat.zero_le _, Nat.zero_le _⟩ (fun H locs hP hD hS => ?_)
  have hM := Option.some.inj hM
  subst hM
  rw [← hQ]
  exact on_iret hx hb hr hlk hP hD hS dX5_differentKinds_28
abbrev rm_X5_differentClasses : Room := { frames := 3, cells := 0, slots := 0, locals := 69 }
set_option maxHeartbeats 4000000 in
set_option maxRecDepth 100000 in
theorem k_X5_differentClasses {l : Launch} {D : va_G} {cI cJ cZ cS cA : ClassId} (h_t : Nat) (h_t_now : Nat) (h_t_images : Nat) (h_t_pad : Nat) (h_t_net : Nat) (h_t_second : Nat) (h_t_renumbering : Nat) (h_t_table : Nat) (h_t_marks : Nat) (h_t_now_numbers : Nat) (h_t_net_rows : Nat) (t_now_many : Int32) (t_now_numbers : Nat → Int32) (t_net_many : Int32) (t_net_rows : Nat → Int32) (t_marks : Nat → Int32)  (out : Int32 × Int32 × (Nat → Int32) × (Nat → Int32)) (hM : M_X5_differentClasses t_now_many t_now_numbers t_net_many t_net_rows t_marks = some out) : on_Con l yX5_differentClasses wsX5_differentClasses rm_X5_differentClasses [.ref h_t] D (on_T cI cJ cZ cS cA) [(h_t, .inr (5, [.ref h_t_now, .ref h_t_images, .ref h_t_pad, .ref h_t_net, .ref h_t_second, .ref h_t_renumbering, .ref h_t_table, .ref h_t_marks])), (h_t_now, .inr (3, [.int t_now_many, .ref h_t_now_numbers])), (h_t_now_numbers, .inl (cI, 3, .inl t_now_numbers)), (h_t_net, .inr (0, [.int t_net_many, .ref h_t_net_rows])), (h_t_net_rows, .inl (cI, 7, .inl t_net_rows)), (h_t_marks, .inl (cI, 3, .inl t_marks))] (some (.int out.1)) [(h_t, .inr (5, [.ref h_t_now, .ref h_t_images, .ref h_t_pad, .ref h_t_net, .ref h_t_second, .ref h_t_renumbering, .ref h_t_table, .ref h_t_marks])), (h_t_now, .inr (3, [.int t_now_many, .ref h_t_now_numbers])), (h_t_now_numbers, .inl (cI, 3, .inl t_now_numbers)), (h_t_net, .inr (0, [.int out.2.1, .ref h_t_net_rows])), (h_t_net_rows, .inl (cI, 7, .inl out.2.2.1)), (h_t_marks, .inl (cI, 3, .inl out.2.2.2))] := by
  unfold M_X5_differentClasses at hM
  refine on_enter (cc := cX5_differentClasses) (nL := 2) (rt := (some .int)) (own := RX5) (by decide +kernel) rfl rfl (Nat.le_of_ble_eq_true rfl) ?_
  intro p e s m below meth c A ls hx hb hml hr hlk hts hown hA hK hN H locs hP hD hS hl
  have hl : lv_has ls 2 [(0, .ref h_t)] := hl
  generalize hQ : MQ below (on_Q D (some (.int out.1)) [(h_t, .inr (5, [.ref h_t_now, .ref h_t_images, .ref h_t_pad, .ref h_t_net, .ref h_t_second, .ref h_t_renumbering, .ref h_t_table, .ref h_t_marks])), (h_t_now, .inr (3, [.int t_now_many, .ref h_t_now_numbers])), (h_t_now_numbers, .inl (cI, 3, .inl t_now_numbers)), (h_t_net, .inr (0, [.int out.2.1, .ref h_t_net_rows])), (h_t_net_rows, .inl (cI, 7, .inl out.2.2.1)), (h_t_marks, .inl (cI, 3, .inl out.2.2.2))] A) _ s 0 0 A = Q
  generalize hAr : List.toArray ([.ref h_t] : List Value) = args at hts hQ ⊢
  have w1 := hts (.fieldLink RX5 30 "OddNets" "net" "LOddNets$Net;") (by decide +kernel)
  have w2 : ∀ w ∈ wsX50, w ∈ wsX5_differentClasses := by decide +kernel
  have w3 := hts (.initialized RX0) (by decide +kernel)
  have w4 := hts (.instanceMethod yX0_leaveAlone) (by decide +kernel)
  have w5 := hts (.selects RX0 yX0_leaveAlone yX0_leaveAlone) (by decide +kernel)
  have w6 := hts (.fieldLink RX5 51 "OddNets" "marks" "[I") (by decide +kernel)
  have w7 := hts (.instanceMethod yX0_number) (by decide +kernel)
  have w8 := hts (.selects RX0 yX0_number yX0_number) (by decide +kernel)
  have lp_2 : ∀ (n : Nat) (v1 : Int32) (t_net_many : Int32) (t_net_rows : Nat → Int32) (t_marks : Nat → Int32) (x : Int32 × (Nat → Int32) × (Nat → Int32)), on_loop (fun (s : Int32 × Int32 × (Nat → Int32) × (Nat → Int32)) => B_X5_differentClasses_2 t_now_many t_now_numbers s.1 s.2.1 s.2.2.1 s.2.2.2) n (v1, t_net_many, t_net_rows, t_marks) = some x → (∀ (H : Heap) (locs : List Loc), va_P D vwCl [(h_t, .inr (5, [.ref h_t_now, .ref h_t_images, .ref h_t_pad, .ref h_t_net, .ref h_t_second, .ref h_t_renumbering, .ref h_t_table, .ref h_t_marks])), (h_t_now, .inr (3, [.int t_now_many, .ref h_t_now_numbers])), (h_t_now_numbers, .inl (cI, 3, .inl t_now_numbers)), (h_t_net, .inr (0, [.int x.1, .ref h_t_net_rows])), (h_t_net_rows, .inl (cI, 7, .inl x.2.1)), (h_t_marks, .inl (cI, 3, .inl x.2.2))] H → va_D A [(h_t, .inr (5, [.ref h_t_now, .ref h_t_images, .ref h_t_pad, .ref h_t_net, .ref h_t_second, .ref h_t_renumbering, .ref h_t_table, .ref h_t_marks])), (h_t_now, .inr (3, [.int t_now_many, .ref h_t_now_numbers])), (h_t_now_numbers, .inl (cI, 3, .inl t_now_numbers)), (h_t_net, .inr (0, [.int x.1, .ref h_t_net_rows])), (h_t_net_rows, .inl (cI, 7, .inl x.2.1)), (h_t_marks, .inl (cI, 3, .inl x.2.2))] → va_S A s.heap H locs → ∀ ls : Array Slot, lv_has ls 2 [(0, .ref h_t)] → W p l e rm_X5_differentClasses s m args below meth c H locs 0 0 Q (F0 m 43 ls [])) → ∀ (H : Heap) (locs : List Loc), va_P D vwCl [(h_t, .inr (5, [.ref h_t_now, .ref h_t_images, .ref h_t_pad, .ref h_t_net, .ref h_t_second, .ref h_t_renumbering, .ref h_t_table, .ref h_t_marks])), (h_t_now, .inr (3, [.int t_now_many, .ref h_t_now_numbers])), (h_t_now_numbers, .inl (cI, 3, .inl t_now_numbers)), (h_t_net, .inr (0, [.int t_net_many, .ref h_t_net_rows])), (h_t_net_rows, .inl (cI, 7, .inl t_net_rows)), (h_t_marks, .inl (cI, 3, .inl t_marks))] H → va_D A [(h_t, .inr (5, [.ref h_t_now, .ref h_t_images, .ref h_t_pad, .ref h_t_net, .ref h_t_second, .ref h_t_renumbering, .ref h_t_table, .ref h_t_marks])), (h_t_now, .inr (3, [.int t_now_many, .ref h_t_now_numbers])), (h_t_now_numbers, .inl (cI, 3, .inl t_now_numbers)), (h_t_net, .inr (0, [.int t_net_many, .ref h_t_net_rows])), (h_t_net_rows, .inl (cI, 7, .inl t_net_rows)), (h_t_marks, .inl (cI, 3, .inl t_marks))] → va_S A s.heap H locs → ∀ ls : Array Slot, lv_has ls 2 [(0, .ref h_t), (1, .int v1)] → W p l e rm_X5_differentClasses s m args below meth c H locs 0 0 Q (F0 m 2 ls []) := by
    intro n
    induction n with
    | zero =>
      intro v1 t_net_many t_net_rows t_marks x hL
      exact (on_loop0 hL).elim
    | succ n ih =>
      intro v1 t_net_many t_net_rows t_marks x hL K1 H locs hP hD hS ls hl
      obtain ⟨y, hM, hk⟩ := on_loopE hL
      have hM : B_X5_differentClasses_2 t_now_many t_now_numbers v1 t_net_many t_net_rows t_marks = some y := hM
      unfold B_X5_differentClasses_2 at hM
      refine lv_iload_n hx hb dX5_differentClasses_2 rfl (lv_at hl 1 rfl) ?_
      refine lv_iconst (v := 3) hx hb dX5_differentClasses_3 (by decide) ?_
      refine lv_icmp_ge (tgt := 43) hx hb dX5_differentClasses_4 (by decide) (fun c_1 => ?_) (fun c_1 => ?_)
      · have hM := on_pos c_1 hM
        have hk := on_nxR hM hk
        subst hk
        exact K1 _ _ hP hD hS ls (lv_sub hl [0] rfl)
      · have hM := on_neg c_1 hM
        refine lv_aload_n hx hb dX5_differentClasses_7 rfl (lv_at hl 0 rfl) ?_
        refine lv_aload_n hx hb dX5_differentClasses_8 rfl (lv_at hl 0 rfl) ?_
        refine va_get (D := D) (ci := 5) (v := .ref h_t_net) (C := RX5) (T := TX5) (N := 8) hx hb hts w2 hown hK hP 0 rfl rfl 3 (by decide) w1 (fun _ h9 => h9) rfl dX5_differentClasses_9 ?_
        refine lv_iload_n hx hb dX5_differentClasses_12 rfl (lv_at hl 1 rfl) ?_
        obtain ⟨q_2, hq_2, hM⟩ := on_bind hM
        refine on_callV (rest := []) (As := [.ref h_t_net, .int v1]) (st1 := []) (C := RX5) (ci := 5) (q0 := 0) (wc := [(h_t, .inr (5, [.ref h_t_now, .ref h_t_images, .ref h_t_pad, .ref h_t_net, .ref h_t_second, .ref h_t_renumbering, .ref h_t_table, .ref h_t_marks])), (h_t_now, .inr (3, [.int t_now_many, .ref h_t_now_numbers])), (h_t_now_numbers, .inl (cI, 3, .inl t_now_numbers)), (h_t_net, .inr (0, [.int t_net_many, .ref h_t_net_rows])), (h_t_net_rows, .inl (cI, 7, .inl t_net_rows))]) (wr := [(h_t_marks, .inl (cI, 3, .inl t_marks))]) (wc' := [(h_t, .inr (5, [.ref h_t_now, .ref h_t_images, .ref h_t_pad, .ref h_t_net, .ref h_t_second, .ref h_t_renumbering, .ref h_t_table, .ref h_t_marks])), (h_t_now, .inr (3, [.int t_now_many, .ref h_t_now_numbers])), (h_t_now_numbers, .inl (cI, 3, .inl t_now_numbers)), (h_t_net, .inr (0, [.int q_2.1, .ref h_t_net_rows])), (h_t_net_rows, .inl (cI, 7, .inl q_2.2))]) (wf := [(h_t, .inr (5, [.ref h_t_now, .ref h_t_images, .ref h_t_pad, .ref h_t_net, .ref h_t_second, .ref h_t_renumbering, .ref h_t_table, .ref h_t_marks])), (h_t_now, .inr (3, [.int t_now_many, .ref h_t_now_numbers])), (h_t_now_numbers, .inl (cI, 3, .inl t_now_numbers)), (h_t_net, .inr (0, [.int q_2.1, .ref h_t_net_rows])), (h_t_net_rows, .inl (cI, 7, .inl q_2.2)), (h_t_marks, .inl (cI, 3, .inl t_marks))]) (rt := none) ⟨hx, hb, hml, hown, hts⟩ (k_X5_load h_t h_t_now h_t_images h_t_pad h_t_net h_t_second h_t_renumbering h_t_table h_t_marks h_t_now_numbers h_t_net h_t_net_rows t_now_many t_now_numbers t_net_many t_net_rows v1 q_2 hq_2) (cwV 2 hts gX5_differentClasses_X5_load rfl rfl rfl ⟨rfl, hdX5_load⟩ ⟨(Nat.le_of_ble_eq_true rfl), (Nat.le_of_ble_eq_true rfl)⟩) hK hN hP hD hS hA [0, 1, 2, 3, 4] [5] [1, 2, 3, 4, 5, 0] rfl rfl rfl rfl (by decide) rfl rfl rfl rfl rfl rfl hl.1 rfl (Nat.le_of_ble_eq_true rfl) rfl dX5_differentClasses_13 ⟨Nat.zero_le _, Nat.zero_le _⟩ (fun H locs hP hD hS => ?_)
        refine lv_aload_n hx hb dX5_differentClasses_16 rfl (lv_at hl 0 rfl) ?_
        refine va_get (D := D) (ci := 5) (v := .ref h_t_net) (C := RX5) (T := TX5) (N := 8) hx hb hts w2 hown hK hP 0 rfl rfl 3 (by decide) w1 (fun _ h9 => h9) rfl dX5_differentClasses_17 ?_
        refine lv_iconst (v := 0) hx hb dX5_differentClasses_20 (by decide) ?_
        obtain ⟨q_3, hq_3, hM⟩ := on_bind hM
        refine on_callVN (rest := []) (As := [.int (0 : Int32)]) (st1 := []) (C := RX0) (ci := 0) (q0 := 3) (wc := [(h_t_net, .inr (0, [.int q_2.1, .ref h_t_net_rows])), (h_t_net_rows, .inl (cI, 7, .inl q_2.2))]) (wr := [(h_t, .inr (5, [.ref h_t_now, .ref h_t_images, .ref h_t_pad, .ref h_t_net, .ref h_t_second, .ref h_t_renumbering, .ref h_t_table, .ref h_t_marks])), (h_t_now, .inr (3, [.int t_now_many, .ref h_t_now_numbers])), (h_t_now_numbers, .inl (cI, 3, .inl t_now_numbers)), (h_t_marks, .inl (cI, 3, .inl t_marks))]) (wc' := [(h_t_net, .inr (0, [.int q_2.1, .ref h_t_net_rows])), (h_t_net_rows, .inl (cI, 7, .inl q_3))]) (wf := [(h_t, .inr (5, [.ref h_t_now, .ref h_t_images, .ref h_t_pad, .ref h_t_net, .ref h_t_second, .ref h_t_renumbering, .ref h_t_table, .ref h_t_marks])), (h_t_now, .inr (3, [.int t_now_many, .ref h_t_now_numbers])), (h_t_now_numbers, .inl (cI, 3, .inl t_now_numbers)), (h_t_net, .inr (0, [.int q_2.1, .ref h_t_net_rows])), (h_t_net_rows, .inl (cI, 7, .inl q_3)), (h_t_marks, .inl (cI, 3, .inl t_marks))]) (rt := none) ⟨hx, hb, hml, hown, hts⟩ (k_X0_leaveAlone h_t_net h_t_net_rows q_2.1 q_2.2 (0 : Int32) q_3 hq_3) ⟨va_cnB 1 hts gX5_differentClasses_X0_leaveAlone_n135 rfl rfl rfl (hN _ (List.mem_of_getElem? (i := 32) rfl)) w3 hdX0_leaveAlone ⟨(Nat.le_of_ble_eq_true rfl), (Nat.le_of_ble_eq_true rfl)⟩, w4, w5⟩ hK hN hP hD hS hA [3, 4] [0, 1, 2, 5] [0, 1, 2, 4, 5, 3] rfl rfl rfl rfl (by decide) rfl rfl rfl rfl rfl rfl hl.1 rfl (Nat.le_of_ble_eq_true rfl) rfl dX5_differentClasses_21 ⟨Nat.zero_le _, Nat.zero_le _⟩ (fun H locs hP hD hS => ?_)
        refine lv_aload_n hx hb dX5_differentClasses_24 rfl (lv_at hl 0 rfl) ?_
        refine va_get (D := D) (ci := 5) (v := .ref h_t_marks) (C := RX5) (T := TX5) (N := 8) hx hb hts w2 hown hK hP 0 rfl rfl 7 (by decide) w6 (fun _ h9 => h9) rfl dX5_differentClasses_25 ?_
        refine lv_iload_n hx hb dX5_differentClasses_28 rfl (lv_at hl 1 rfl) ?_
        refine lv_aload_n hx hb dX5_differentClasses_29 rfl (lv_at hl 0 rfl) ?_
        refine va_get (D := D) (ci := 5) (v := .ref h_t_net) (C := RX5) (T := TX5) (N := 8) hx hb hts w2 hown hK hP 0 rfl rfl 3 (by decide) w1 (fun _ h9 => h9) rfl dX5_differentClasses_30 ?_
        obtain ⟨q_4, hq_4, hM⟩ := on_bind hM
        refine on_callVN (rest := [.int v1, .ref h_t_marks]) (As := []) (st1 := [.int q_4, .int v1, .ref h_t_marks]) (C := RX0) (ci := 0) (q0 := 3) (wc := [(h_t_net, .inr (0, [.int q_2.1, .ref h_t_net_rows])), (h_t_net_rows, .inl (cI, 7, .inl q_3))]) (wr := [(h_t, .inr (5, [.ref h_t_now, .ref h_t_images, .ref h_t_pad, .ref h_t_net, .ref h_t_second, .ref h_t_renumbering, .ref h_t_table, .ref h_t_marks])), (h_t_now, .inr (3, [.int t_now_many, .ref h_t_now_numbers])), (h_t_now_numbers, .inl (cI, 3, .inl t_now_numbers)), (h_t_marks, .inl (cI, 3, .inl t_marks))]) (wc' := [(h_t_net, .inr (0, [.int q_2.1, .ref h_t_net_rows])), (h_t_net_rows, .inl (cI, 7, .inl q_3))]) (wf := [(h_t, .inr (5, [.ref h_t_now, .ref h_t_images, .ref h_t_pad, .ref h_t_net, .ref h_t_second, .ref h_t_renumbering, .ref h_t_table, .ref h_t_marks])), (h_t_now, .inr (3, [.int t_now_many, .ref h_t_now_numbers])), (h_t_now_numbers, .inl (cI, 3, .inl t_now_numbers)), (h_t_net, .inr (0, [.int q_2.1, .ref h_t_net_rows])), (h_t_net_rows, .inl (cI, 7, .inl q_3)), (h_t_marks, .inl (cI, 3, .inl t_marks))]) (rt := (some (.int q_4))) ⟨hx, hb, hml, hown, hts⟩ (k_X0_number h_t_net h_t_net_rows q_2.1 q_3 q_4 hq_4) ⟨va_cnB 0 hts gX5_differentClasses_X0_number_n85 rfl rfl rfl (hN _ (List.mem_of_getElem? (i := 19) rfl)) w3 hdX0_number ⟨(Nat.le_of_ble_eq_true rfl), (Nat.le_of_ble_eq_true rfl)⟩, w7, w8⟩ hK hN hP hD hS hA [3, 4] [0, 1, 2, 5] [0, 1, 2, 4, 5, 3] rfl rfl rfl rfl (by decide) rfl rfl rfl rfl rfl rfl hl.1 rfl (Nat.le_of_ble_eq_true rfl) rfl dX5_differentClasses_33 ⟨Nat.zero_le _, Nat.zero_le _⟩ (fun H locs hP hD hS => ?_)
        obtain ⟨g_5, hM⟩ := on_gdE hM
        refine va_iast hx hb hK hP hD hS 5 0 rfl rfl (on_ixE g_5) dX5_differentClasses_36 (fun H locs hP hD hS => ?_)
        have hP : va_P D vwCl [(h_t, .inr (5, [.ref h_t_now, .ref h_t_images, .ref h_t_pad, .ref h_t_net, .ref h_t_second, .ref h_t_renumbering, .ref h_t_table, .ref h_t_marks])), (h_t_now, .inr (3, [.int t_now_many, .ref h_t_now_numbers])), (h_t_now_numbers, .inl (cI, 3, .inl t_now_numbers)), (h_t_net, .inr (0, [.int q_2.1, .ref h_t_net_rows])), (h_t_net_rows, .inl (cI, 7, .inl q_3)), (h_t_marks, .inl (cI, 3, .inl (upd t_marks (Int32.toNatClampNeg v1) q_4)))] H := hP
        have hD : va_D A [(h_t, .inr (5, [.ref h_t_now, .ref h_t_images, .ref h_t_pad, .ref h_t_net, .ref h_t_second, .ref h_t_renumbering, .ref h_t_table, .ref h_t_marks])), (h_t_now, .inr (3, [.int t_now_many, .ref h_t_now_numbers])), (h_t_now_numbers, .inl (cI, 3, .inl t_now_numbers)), (h_t_net, .inr (0, [.int q_2.1, .ref h_t_net_rows])), (h_t_net_rows, .inl (cI, 7, .inl q_3)), (h_t_marks, .inl (cI, 3, .inl (upd t_marks (Int32.toNatClampNeg v1) q_4)))] := hD
        obtain ⟨v1_6, ev1_6⟩ : ∃ z : Int32, z = v1 + 1 := ⟨_, rfl⟩
        have hM := on_letE ev1_6 hM
        refine lv_iinc (v := v1_6) (lv' := [(1, .int v1_6), (0, .ref h_t)]) hx hb dX5_differentClasses_37 hl (k := 1) rfl (by rw [ev1_6]; rfl) (by decide) rfl (fun ls hl => ?_)
        refine lv_goto (tgt := 2) hx hb dX5_differentClasses_40 (by decide) ?_
        have hk := on_nxL hM hk
        exact ih v1_6 q_2.1 q_3 (upd t_marks (Int32.toNatClampNeg v1) q_4) _ hk K1 _ _ hP hD hS ls (lv_sub hl [1, 0] rfl)
  refine lv_iconst (v := 0) hx hb dX5_differentClasses_0 (by decide) ?_
  refine lv_istore_n (lv' := [(1, .int (0 : Int32)), (0, .ref h_t)]) hx hb dX5_differentClasses_1 rfl hl (by decide) rfl (fun ls hl => ?_)
  obtain ⟨q_7, hq_7, hM⟩ := on_bind hM
  refine lp_2  on_F (0 : Int32) t_net_many t_net_rows t_marks q_7 hq_7 (fun H locs hP hD hS ls hl => ?_) H locs hP hD hS ls (lv_sub hl [1, 0] rfl)
  refine lv_aload_n hx hb dX5_differentClasses_43 rfl (lv_at hl 0 rfl) ?_
  obtain ⟨q_8, hq_8, hM⟩ := on_bind hM
  refine on_callV (rest := []) (As := []) (st1 := [.int q_8]) (C := RX5) (ci := 5) (q0 := 0) (wc := [(h_t, .inr (5, [.ref h_t_now, .ref h_t_images, .ref h_t_pad, .ref h_t_net, .ref h_t_second, .ref h_t_renumbering, .ref h_t_table, .ref h_t_marks])), (h_t_marks, .inl (cI, 3, .inl q_7.2.2))]) (wr := [(h_t_now, .inr (3, [.int t_now_many, .ref h_t_now_numbers])), (h_t_now_numbers, .inl (cI, 3, .inl t_now_numbers)), (h_t_net, .inr (0, [.int q_7.1, .ref h_t_net_rows])), (h_t_net_rows, .inl (cI, 7, .inl q_7.2.1))]) (wc' := [(h_t, .inr (5, [.ref h_t_now, .ref h_t_images, .ref h_t_pad, .ref h_t_net, .ref h_t_second, .ref h_t_renumbering, .ref h_t_table, .ref h_t_marks])), (h_t_marks, .inl (cI, 3, .inl q_7.2.2))]) (wf := [(h_t, .inr (5, [.ref h_t_now, .ref h_t_images, .ref h_t_pad, .ref h_t_net, .ref h_t_second, .ref h_t_renumbering, .ref h_t_table, .ref h_t_marks])), (h_t_now, .inr (3, [.int t_now_many, .ref h_t_now_numbers])), (h_t_now_numbers, .inl (cI, 3, .inl t_now_numbers)), (h_t_net, .inr (0, [.int q_7.1, .ref h_t_net_rows])), (h_t_net_rows, .inl (cI, 7, .inl q_7.2.1)), (h_t_marks, .inl (cI, 3, .inl q_7.2.2))]) (rt := (some (.int q_8))) ⟨hx, hb, hml, hown, hts⟩ (k_X5_differentMarks h_t h_t_now h_t_images h_t_pad h_t_net h_t_second h_t_renumbering h_t_table h_t_marks q_7.2.2 q_8 hq_8) (cwV 0 hts gX5_differentClasses_X5_differentMarks rfl rfl rfl ⟨rfl, hdX5_differentMarks⟩ ⟨(Nat.le_of_ble_eq_true rfl), (Nat.le_of_ble_eq_true rfl)⟩) hK hN hP hD hS hA [0, 5] [1, 2, 3, 4] [4, 0, 1, 2, 3, 5] rfl rfl rfl rfl (by decide) rfl rfl rfl rfl rfl rfl hl.1 rfl (Nat.le_of_ble_eq_true rfl) rfl dX5_differentClasses_44 ⟨Nat.zero_le _, Nat.zero_le _⟩ (fun H locs hP hD hS => ?_)
  have hM := Option.some.inj hM
  subst hM
  rw [← hQ]
  exact on_iret hx hb hr hlk hP hD hS dX5_differentClasses_47
abbrev rm_X5_count : Room := { frames := 15, cells := 0, slots := 0, locals := 395 }
set_option maxHeartbeats 4000000 in
set_option maxRecDepth 100000 in
theorem k_X5_count {l : Launch} {D : va_G} {cI cJ cZ cS cA : ClassId} (h_t : Nat) (h_t_now : Nat) (h_t_images : Nat) (h_t_pad : Nat) (h_t_net : Nat) (h_t_second : Nat) (h_t_renumbering : Nat) (h_t_table : Nat) (h_t_marks : Nat) (h_t_now_numbers : Nat) (h_t_images_0 : Nat) (h_t_images_1 : Nat) (h_t_images_0_numbers : Nat) (h_t_images_1_numbers : Nat) (h_t_pad_signs : Nat) (h_t_net_rows : Nat) (h_t_renumbering_at : Nat) (t_now_many : Int32) (t_now_numbers : Nat → Int32) (t_images_0_many : Int32) (t_images_1_many : Int32) (t_pad_size : Int32) (t_net_many : Int32) (t_net_rows : Nat → Int32) (t_renumbering_at : Nat → Int32) (t_marks : Nat → Int32) (v1 : Int32) (out : Int32 × Int32 × (Nat → Int32) × (Nat → Int32) × (Nat → Int32)) (hM : M_X5_count v1 t_now_many t_now_numbers t_images_0_many t_images_1_many t_pad_size t_net_many t_net_rows t_renumbering_at t_marks = some out) : on_Con l yX5_count wsX5_count rm_X5_count [.ref h_t, .int v1] D (on_T cI cJ cZ cS cA) [(h_t, .inr (5, [.ref h_t_now, .ref h_t_images, .ref h_t_pad, .ref h_t_net, .ref h_t_second, .ref h_t_renumbering, .ref h_t_table, .ref h_t_marks])), (h_t_now, .inr (3, [.int t_now_many, .ref h_t_now_numbers])), (h_t_now_numbers, .inl (cI, 3, .inl t_now_numbers)), (h_t_images, .inl (cS, 2, .inr (.inr (.inr (.inr (on_im h_t_images_0 h_t_images_1)))))), (h_t_images_0, .inr (3, [.int t_images_0_many, .ref h_t_images_0_numbers])), (h_t_images_1, .inr (3, [.int t_images_1_many, .ref h_t_images_1_numbers])), (h_t_pad, .inr (1, [.int t_pad_size, .ref h_t_pad_signs])), (h_t_net, .inr (0, [.int t_net_many, .ref h_t_net_rows])), (h_t_net_rows, .inl (cI, 7, .inl t_net_rows)), (h_t_renumbering, .inr (2, [.ref h_t_renumbering_at])), (h_t_renumbering_at, .inl (cI, 7, .inl t_renumbering_at)), (h_t_marks, .inl (cI, 3, .inl t_marks))] (some (.int out.1)) [(h_t, .inr (5, [.ref h_t_now, .ref h_t_images, .ref h_t_pad, .ref h_t_net, .ref h_t_second, .ref h_t_renumbering, .ref h_t_table, .ref h_t_marks])), (h_t_now, .inr (3, [.int t_now_many, .ref h_t_now_numbers])), (h_t_now_numbers, .inl (cI, 3, .inl t_now_numbers)), (h_t_images, .inl (cS, 2, .inr (.inr (.inr (.inr (on_im h_t_images_0 h_t_images_1)))))), (h_t_images_0, .inr (3, [.int t_images_0_many, .ref h_t_images_0_numbers])), (h_t_images_1, .inr (3, [.int t_images_1_many, .ref h_t_images_1_numbers])), (h_t_pad, .inr (1, [.int t_pad_size, .ref h_t_pad_signs])), (h_t_net, .inr (0, [.int out.2.1, .ref h_t_net_rows])), (h_t_net_rows, .inl (cI, 7, .inl out.2.2.1)), (h_t_renumbering, .inr (2, [.ref h_t_renumbering_at])), (h_t_renumbering_at, .inl (cI, 7, .inl out.2.2.2.1)), (h_t_marks, .inl (cI, 3, .inl out.2.2.2.2))] := by
  unfold M_X5_count at hM
  refine on_enter (cc := cX5_count) (nL := 2) (rt := (some .int)) (own := RX5) (by decide +kernel) rfl rfl (Nat.le_of_ble_eq_true rfl) ?_
  intro p e s m below meth c A ls hx hb hml hr hlk hts hown hA hK hN H locs hP hD hS hl
  have hl : lv_has ls 2 [(0, .ref h_t), (1, .int v1)] := hl
  generalize hQ : MQ below (on_Q D (some (.int out.1)) [(h_t, .inr (5, [.ref h_t_now, .ref h_t_images, .ref h_t_pad, .ref h_t_net, .ref h_t_second, .ref h_t_renumbering, .ref h_t_table, .ref h_t_marks])), (h_t_now, .inr (3, [.int t_now_many, .ref h_t_now_numbers])), (h_t_now_numbers, .inl (cI, 3, .inl t_now_numbers)), (h_t_images, .inl (cS, 2, .inr (.inr (.inr (.inr (on_im h_t_images_0 h_t_images_1)))))), (h_t_images_0, .inr (3, [.int t_images_0_many, .ref h_t_images_0_numbers])), (h_t_images_1, .inr (3, [.int t_images_1_many, .ref h_t_images_1_numbers])), (h_t_pad, .inr (1, [.int t_pad_size, .ref h_t_pad_signs])), (h_t_net, .inr (0, [.int out.2.1, .ref h_t_net_rows])), (h_t_net_rows, .inl (cI, 7, .inl out.2.2.1)), (h_t_renumbering, .inr (2, [.ref h_t_renumbering_at])), (h_t_renumbering_at, .inl (cI, 7, .inl out.2.2.2.1)), (h_t_marks, .inl (cI, 3, .inl out.2.2.2.2))] A) _ s 0 0 A = Q
  generalize hAr : List.toArray ([.ref h_t, .int v1] : List Value) = args at hts hQ ⊢
  have w1 := hts (.fieldLink RX5 10 "OddNets" "now" "LOddNets$Shelf;") (by decide +kernel)
  have w2 : ∀ w ∈ wsX50, w ∈ wsX5_count := by decide +kernel
  have w3 : ∀ w ∈ wsX30, w ∈ wsX5_count := by decide +kernel
  have w4 := hts (.fieldLink RX5 23 "OddNets" "pad" "LOddNets$Pad;") (by decide +kernel)
  have w5 : ∀ w ∈ wsX10, w ∈ wsX5_count := by decide +kernel
  refine lv_iload_n hx hb dX5_count_0 rfl (lv_at hl 1 rfl) ?_
  by_cases c_6 : v1 = 0
  · have hM := on_pos c_6 hM
    refine lv_tableIn (tgt := 44) hx hb dX5_count_1 (by rw [c_6]; decide) (by rw [c_6]; decide) (by rw [c_6]; rfl) (by decide) ?_
    refine lv_aload_n hx hb dX5_count_44 rfl (lv_at hl 0 rfl) ?_
    refine va_get (D := D) (ci := 5) (v := .ref h_t_now) (C := RX5) (T := TX5) (N := 8) hx hb hts w2 hown hK hP 0 rfl rfl 0 (by decide) w1 (fun _ h9 => h9) rfl dX5_count_45 ?_
    refine va_getN (D := D) (ci := 3) (v := .int t_now_many) (C := RX3) (T := TX3) (N := 2) hx hb hts w3 hown hK hP 1 rfl rfl 0 (by decide) (va_Nw.use rfl (hN _ (List.mem_of_getElem? (i := 0) rfl))) (fun _ h9 => h9) rfl dX5_count_48 ?_
    have hM := Option.some.inj hM
    subst hM
    rw [← hQ]
    exact on_iret hx hb hr hlk hP hD hS dX5_count_51
  · have hM := on_neg c_6 hM
    by_cases c_7 : v1 = 1
    · have hM := on_pos c_7 hM
      refine lv_tableIn (tgt := 52) hx hb dX5_count_1 (by rw [c_7]; decide) (by rw [c_7]; decide) (by rw [c_7]; rfl) (by decide) ?_
      refine lv_aload_n hx hb dX5_count_52 rfl (lv_at hl 0 rfl) ?_
      refine va_get (D := D) (ci := 5) (v := .ref h_t_now) (C := RX5) (T := TX5) (N := 8) hx hb hts w2 hown hK hP 0 rfl rfl 0 (by decide) w1 (fun _ h9 => h9) rfl dX5_count_53 ?_
      refine va_getN (D := D) (ci := 3) (v := .int t_now_many) (C := RX3) (T := TX3) (N := 2) hx hb hts w3 hown hK hP 1 rfl rfl 0 (by decide) (va_Nw.use rfl (hN _ (List.mem_of_getElem? (i := 0) rfl))) (fun _ h9 => h9) rfl dX5_count_56 ?_
      obtain ⟨q_1, hq_1, hM⟩ := on_bind hM
      refine on_callS0 (rest := []) (As := [.int t_now_many]) (st1 := [.int q_1]) ⟨hx, hb, hml, hown, hts⟩ (k_X5_pairsOf t_now_many q_1 hq_1) (va_cwS 1 hts gX5_count_X5_pairsOf rfl rfl rfl hdX5_pairsOf ⟨(Nat.le_of_ble_eq_true rfl), (Nat.le_of_ble_eq_true rfl)⟩) hK hN hP hD hS hA rfl hl.1 rfl (Nat.le_of_ble_eq_true rfl) rfl dX5_count_59 ⟨Nat.zero_le _, Nat.zero_le _⟩ (fun H locs hP hS => ?_)
      have hM := Option.some.inj hM
      subst hM
      rw [← hQ]
      exact on_iret hx hb hr hlk hP hD hS dX5_count_62
    · have hM := on_neg c_7 hM
      by_cases c_8 : v1 = 2
      · have hM := on_pos c_8 hM
        refine lv_tableIn (tgt := 63) hx hb dX5_count_1 (by rw [c_8]; decide) (by rw [c_8]; decide) (by rw [c_8]; rfl) (by decide) ?_
        refine lv_aload_n hx hb dX5_count_63 rfl (lv_at hl 0 rfl) ?_
        refine va_get (D := D) (ci := 5) (v := .ref h_t_now) (C := RX5) (T := TX5) (N := 8) hx hb hts w2 hown hK hP 0 rfl rfl 0 (by decide) w1 (fun _ h9 => h9) rfl dX5_count_64 ?_
        refine va_getN (D := D) (ci := 3) (v := .int t_now_many) (C := RX3) (T := TX3) (N := 2) hx hb hts w3 hown hK hP 1 rfl rfl 0 (by decide) (va_Nw.use rfl (hN _ (List.mem_of_getElem? (i := 0) rfl))) (fun _ h9 => h9) rfl dX5_count_67 ?_
        obtain ⟨q_2, hq_2, hM⟩ := on_bind hM
        refine on_callS0 (rest := []) (As := [.int t_now_many]) (st1 := [.int q_2]) ⟨hx, hb, hml, hown, hts⟩ (k_X5_triplesOf t_now_many q_2 hq_2) (va_cwS 1 hts gX5_count_X5_triplesOf rfl rfl rfl hdX5_triplesOf ⟨(Nat.le_of_ble_eq_true rfl), (Nat.le_of_ble_eq_true rfl)⟩) hK hN hP hD hS hA rfl hl.1 rfl (Nat.le_of_ble_eq_true rfl) rfl dX5_count_70 ⟨Nat.zero_le _, Nat.zero_le _⟩ (fun H locs hP hS => ?_)
        have hM := Option.some.inj hM
        subst hM
        rw [← hQ]
        exact on_iret hx hb hr hlk hP hD hS dX5_count_73
      · have hM := on_neg c_8 hM
        by_cases c_9 : v1 = 3
        · have hM := on_pos c_9 hM
          refine lv_tableIn (tgt := 74) hx hb dX5_count_1 (by rw [c_9]; decide) (by rw [c_9]; decide) (by rw [c_9]; rfl) (by decide) ?_
          refine lv_aload_n hx hb dX5_count_74 rfl (lv_at hl 0 rfl) ?_
          refine va_get (D := D) (ci := 5) (v := .ref h_t_pad) (C := RX5) (T := TX5) (N := 8) hx hb hts w2 hown hK hP 0 rfl rfl 2 (by decide) w4 (fun _ h9 => h9) rfl dX5_count_75 ?_
          refine va_getN (D := D) (ci := 1) (v := .int t_pad_size) (C := RX1) (T := TX1) (N := 2) hx hb hts w5 hown hK hP 6 rfl rfl 0 (by decide) (va_Nw.use rfl (hN _ (List.mem_of_getElem? (i := 2) rfl))) (fun _ h9 => h9) rfl dX5_count_78 ?_
          have hM := Option.some.inj hM
          subst hM
          rw [← hQ]
          exact on_iret hx hb hr hlk hP hD hS dX5_count_81
        · have hM := on_neg c_9 hM
          by_cases c_10 : v1 = 4
          · have hM := on_pos c_10 hM
            refine lv_tableIn (tgt := 82) hx hb dX5_count_1 (by rw [c_10]; decide) (by rw [c_10]; decide) (by rw [c_10]; rfl) (by decide) ?_
            refine lv_aload_n hx hb dX5_count_82 rfl (lv_at hl 0 rfl) ?_
            obtain ⟨q_3, hq_3, hM⟩ := on_bind hM
            refine on_callV (rest := []) (As := []) (st1 := [.int q_3.1]) (C := RX5) (ci := 5) (q0 := 0) (wc := [(h_t, .inr (5, [.ref h_t_now, .ref h_t_images, .ref h_t_pad, .ref h_t_net, .ref h_t_second, .ref h_t_renumbering, .ref h_t_table, .ref h_t_marks])), (h_t_now, .inr (3, [.int t_now_many, .ref h_t_now_numbers])), (h_t_now_numbers, .inl (cI, 3, .inl t_now_numbers)), (h_t_net, .inr (0, [.int t_net_many, .ref h_t_net_rows])), (h_t_net_rows, .inl (cI, 7, .inl t_net_rows)), (h_t_marks, .inl (cI, 3, .inl t_marks))]) (wr := [(h_t_images, .inl (cS, 2, .inr (.inr (.inr (.inr (on_im h_t_images_0 h_t_images_1)))))), (h_t_images_0, .inr (3, [.int t_images_0_many, .ref h_t_images_0_numbers])), (h_t_images_1, .inr (3, [.int t_images_1_many, .ref h_t_images_1_numbers])), (h_t_pad, .inr (1, [.int t_pad_size, .ref h_t_pad_signs])), (h_t_renumbering, .inr (2, [.ref h_t_renumbering_at])), (h_t_renumbering_at, .inl (cI, 7, .inl t_renumbering_at))]) (wc' := [(h_t, .inr (5, [.ref h_t_now, .ref h_t_images, .ref h_t_pad, .ref h_t_net, .ref h_t_second, .ref h_t_renumbering, .ref h_t_table, .ref h_t_marks])), (h_t_now, .inr (3, [.int t_now_many, .ref h_t_now_numbers])), (h_t_now_numbers, .inl (cI, 3, .inl t_now_numbers)), (h_t_net, .inr (0, [.int q_3.2.1, .ref h_t_net_rows])), (h_t_net_rows, .inl (cI, 7, .inl q_3.2.2.1)), (h_t_marks, .inl (cI, 3, .inl q_3.2.2.2))]) (wf := [(h_t, .inr (5, [.ref h_t_now, .ref h_t_images, .ref h_t_pad, .ref h_t_net, .ref h_t_second, .ref h_t_renumbering, .ref h_t_table, .ref h_t_marks])), (h_t_now, .inr (3, [.int t_now_many, .ref h_t_now_numbers])), (h_t_now_numbers, .inl (cI, 3, .inl t_now_numbers)), (h_t_images, .inl (cS, 2, .inr (.inr (.inr (.inr (on_im h_t_images_0 h_t_images_1)))))), (h_t_images_0, .inr (3, [.int t_images_0_many, .ref h_t_images_0_numbers])), (h_t_images_1, .inr (3, [.int t_images_1_many, .ref h_t_images_1_numbers])), (h_t_pad, .inr (1, [.int t_pad_size, .ref h_t_pad_signs])), (h_t_net, .inr (0, [.int q_3.2.1, .ref h_t_net_rows])), (h_t_net_rows, .inl (cI, 7, .inl q_3.2.2.1)), (h_t_renumbering, .inr (2, [.ref h_t_renumbering_at])), (h_t_renumbering_at, .inl (cI, 7, .inl t_renumbering_at)), (h_t_marks, .inl (cI, 3, .inl q_3.2.2.2))]) (rt := (some (.int q_3.1))) ⟨hx, hb, hml, hown, hts⟩ (k_X5_differentClasses h_t h_t_now h_t_images h_t_pad h_t_net h_t_second h_t_renumbering h_t_table h_t_marks h_t_now_numbers h_t_net_rows t_now_many t_now_numbers t_net_many t_net_rows t_marks q_3 hq_3) (cwV 0 hts gX5_count_X5_differentClasses rfl rfl rfl ⟨rfl, hdX5_differentClasses⟩ ⟨(Nat.le_of_ble_eq_true rfl), (Nat.le_of_ble_eq_true rfl)⟩) hK hN hP hD hS hA [0, 1, 2, 7, 8, 11] [3, 4, 5, 6, 9, 10] [6, 7, 8, 0, 1, 2, 3, 9, 10, 4, 5, 11] rfl rfl rfl rfl (by decide) rfl rfl rfl rfl rfl rfl hl.1 rfl (Nat.le_of_ble_eq_true rfl) rfl dX5_count_83 ⟨Nat.zero_le _, Nat.zero_le _⟩ (fun H locs hP hD hS => ?_)
            have hM := Option.some.inj hM
            subst hM
            rw [← hQ]
            exact on_iret hx hb hr hlk hP hD hS dX5_count_86
          · have hM := on_neg c_10 hM
            by_cases c_11 : v1 = 5
            · have hM := on_pos c_11 hM
              refine lv_tableIn (tgt := 87) hx hb dX5_count_1 (by rw [c_11]; decide) (by rw [c_11]; decide) (by rw [c_11]; rfl) (by decide) ?_
              refine lv_aload_n hx hb dX5_count_87 rfl (lv_at hl 0 rfl) ?_
              obtain ⟨q_4, hq_4, hM⟩ := on_bind hM
              refine on_callV (rest := []) (As := []) (st1 := [.int q_4.1]) (C := RX5) (ci := 5) (q0 := 0) (wc := [(h_t, .inr (5, [.ref h_t_now, .ref h_t_images, .ref h_t_pad, .ref h_t_net, .ref h_t_second, .ref h_t_renumbering, .ref h_t_table, .ref h_t_marks])), (h_t_now, .inr (3, [.int t_now_many, .ref h_t_now_numbers])), (h_t_now_numbers, .inl (cI, 3, .inl t_now_numbers)), (h_t_net, .inr (0, [.int t_net_many, .ref h_t_net_rows])), (h_t_net_rows, .inl (cI, 7, .inl t_net_rows)), (h_t_renumbering, .inr (2, [.ref h_t_renumbering_at])), (h_t_renumbering_at, .inl (cI, 7, .inl t_renumbering_at)), (h_t_marks, .inl (cI, 3, .inl t_marks))]) (wr := [(h_t_images, .inl (cS, 2, .inr (.inr (.inr (.inr (on_im h_t_images_0 h_t_images_1)))))), (h_t_images_0, .inr (3, [.int t_images_0_many, .ref h_t_images_0_numbers])), (h_t_images_1, .inr (3, [.int t_images_1_many, .ref h_t_images_1_numbers])), (h_t_pad, .inr (1, [.int t_pad_size, .ref h_t_pad_signs]))]) (wc' := [(h_t, .inr (5, [.ref h_t_now, .ref h_t_images, .ref h_t_pad, .ref h_t_net, .ref h_t_second, .ref h_t_renumbering, .ref h_t_table, .ref h_t_marks])), (h_t_now, .inr (3, [.int t_now_many, .ref h_t_now_numbers])), (h_t_now_numbers, .inl (cI, 3, .inl t_now_numbers)), (h_t_net, .inr (0, [.int q_4.2.1, .ref h_t_net_rows])), (h_t_net_rows, .inl (cI, 7, .inl q_4.2.2.1)), (h_t_renumbering, .inr (2, [.ref h_t_renumbering_at])), (h_t_renumbering_at, .inl (cI, 7, .inl q_4.2.2.2.1)), (h_t_marks, .inl (cI, 3, .inl q_4.2.2.2.2))]) (wf := [(h_t, .inr (5, [.ref h_t_now, .ref h_t_images, .ref h_t_pad, .ref h_t_net, .ref h_t_second, .ref h_t_renumbering, .ref h_t_table, .ref h_t_marks])), (h_t_now, .inr (3, [.int t_now_many, .ref h_t_now_numbers])), (h_t_now_numbers, .inl (cI, 3, .inl t_now_numbers)), (h_t_images, .inl (cS, 2, .inr (.inr (.inr (.inr (on_im h_t_images_0 h_t_images_1)))))), (h_t_images_0, .inr (3, [.int t_images_0_many, .ref h_t_images_0_numbers])), (h_t_images_1, .inr (3, [.int t_images_1_many, .ref h_t_images_1_numbers])), (h_t_pad, .inr (1, [.int t_pad_size, .ref h_t_pad_signs])), (h_t_net, .inr (0, [.int q_4.2.1, .ref h_t_net_rows])), (h_t_net_rows, .inl (cI, 7, .inl q_4.2.2.1)), (h_t_renumbering, .inr (2, [.ref h_t_renumbering_at])), (h_t_renumbering_at, .inl (cI, 7, .inl q_4.2.2.2.1)), (h_t_marks, .inl (cI, 3, .inl q_4.2.2.2.2))]) (rt := (some (.int q_4.1))) ⟨hx, hb, hml, hown, hts⟩ (k_X5_differentKinds h_t h_t_now h_t_images h_t_pad h_t_net h_t_second h_t_renumbering h_t_table h_t_marks h_t_now_numbers h_t_net_rows h_t_renumbering_at t_now_many t_now_numbers t_net_many t_net_rows t_renumbering_at t_marks q_4 hq_4) (cwV 0 hts gX5_count_X5_differentKinds rfl rfl rfl ⟨rfl, hdX5_differentKinds⟩ ⟨(Nat.le_of_ble_eq_true rfl), (Nat.le_of_ble_eq_true rfl)⟩) hK hN hP hD hS hA [0, 1, 2, 7, 8, 9, 10, 11] [3, 4, 5, 6] [4, 5, 6, 0, 1, 2, 3, 7, 8, 9, 10, 11] rfl rfl rfl rfl (by decide) rfl rfl rfl rfl rfl rfl hl.1 rfl (Nat.le_of_ble_eq_true rfl) rfl dX5_count_88 ⟨Nat.zero_le _, Nat.zero_le _⟩ (fun H locs hP hD hS => ?_)
              have hM := Option.some.inj hM
              subst hM
              rw [← hQ]
              exact on_iret hx hb hr hlk hP hD hS dX5_count_91
            · have hM := on_neg c_11 hM
              by_cases c_12 : v1 = 6
              · have hM := on_pos c_12 hM
                refine lv_tableIn (tgt := 92) hx hb dX5_count_1 (by rw [c_12]; decide) (by rw [c_12]; decide) (by rw [c_12]; rfl) (by decide) ?_
                refine lv_aload_n hx hb dX5_count_92 rfl (lv_at hl 0 rfl) ?_
                obtain ⟨q_5, hq_5, hM⟩ := on_bind hM
                refine on_callV (rest := []) (As := []) (st1 := [.int q_5]) (C := RX5) (ci := 5) (q0 := 0) (wc := [(h_t, .inr (5, [.ref h_t_now, .ref h_t_images, .ref h_t_pad, .ref h_t_net, .ref h_t_second, .ref h_t_renumbering, .ref h_t_table, .ref h_t_marks])), (h_t_images, .inl (cS, 2, .inr (.inr (.inr (.inr (on_im h_t_images_0 h_t_images_1)))))), (h_t_images_0, .inr (3, [.int t_images_0_many, .ref h_t_images_0_numbers])), (h_t_images_1, .inr (3, [.int t_images_1_many, .ref h_t_images_1_numbers]))]) (wr := [(h_t_now, .inr (3, [.int t_now_many, .ref h_t_now_numbers])), (h_t_now_numbers, .inl (cI, 3, .inl t_now_numbers)), (h_t_pad, .inr (1, [.int t_pad_size, .ref h_t_pad_signs])), (h_t_net, .inr (0, [.int t_net_many, .ref h_t_net_rows])), (h_t_net_rows, .inl (cI, 7, .inl t_net_rows)), (h_t_renumbering, .inr (2, [.ref h_t_renumbering_at])), (h_t_renumbering_at, .inl (cI, 7, .inl t_renumbering_at)), (h_t_marks, .inl (cI, 3, .inl t_marks))]) (wc' := [(h_t, .inr (5, [.ref h_t_now, .ref h_t_images, .ref h_t_pad, .ref h_t_net, .ref h_t_second, .ref h_t_renumbering, .ref h_t_table, .ref h_t_marks])), (h_t_images, .inl (cS, 2, .inr (.inr (.inr (.inr (on_im h_t_images_0 h_t_images_1)))))), (h_t_images_0, .inr (3, [.int t_images_0_many, .ref h_t_images_0_numbers])), (h_t_images_1, .inr (3, [.int t_images_1_many, .ref h_t_images_1_numbers]))]) (wf := [(h_t, .inr (5, [.ref h_t_now, .ref h_t_images, .ref h_t_pad, .ref h_t_net, .ref h_t_second, .ref h_t_renumbering, .ref h_t_table, .ref h_t_marks])), (h_t_now, .inr (3, [.int t_now_many, .ref h_t_now_numbers])), (h_t_now_numbers, .inl (cI, 3, .inl t_now_numbers)), (h_t_images, .inl (cS, 2, .inr (.inr (.inr (.inr (on_im h_t_images_0 h_t_images_1)))))), (h_t_images_0, .inr (3, [.int t_images_0_many, .ref h_t_images_0_numbers])), (h_t_images_1, .inr (3, [.int t_images_1_many, .ref h_t_images_1_numbers])), (h_t_pad, .inr (1, [.int t_pad_size, .ref h_t_pad_signs])), (h_t_net, .inr (0, [.int t_net_many, .ref h_t_net_rows])), (h_t_net_rows, .inl (cI, 7, .inl t_net_rows)), (h_t_renumbering, .inr (2, [.ref h_t_renumbering_at])), (h_t_renumbering_at, .inl (cI, 7, .inl t_renumbering_at)), (h_t_marks, .inl (cI, 3, .inl t_marks))]) (rt := (some (.int q_5))) ⟨hx, hb, hml, hown, hts⟩ (k_X5_keptImages h_t h_t_now h_t_images h_t_pad h_t_net h_t_second h_t_renumbering h_t_table h_t_marks h_t_images_0 h_t_images_1 h_t_images_0_numbers h_t_images_1_numbers t_images_0_many t_images_1_many q_5 hq_5) (cwV 0 hts gX5_count_X5_keptImages rfl rfl rfl ⟨rfl, hdX5_keptImages⟩ ⟨(Nat.le_of_ble_eq_true rfl), (Nat.le_of_ble_eq_true rfl)⟩) hK hN hP hD hS hA [0, 3, 4, 5] [1, 2, 6, 7, 8, 9, 10, 11] [8, 0, 1, 9, 10, 11, 2, 3, 4, 5, 6, 7] rfl rfl rfl rfl (by decide) rfl rfl rfl rfl rfl rfl hl.1 rfl (Nat.le_of_ble_eq_true rfl) rfl dX5_count_93 ⟨Nat.zero_le _, Nat.zero_le _⟩ (fun H locs hP hD hS => ?_)
                have hM := Option.some.inj hM
                subst hM
                rw [← hQ]
                exact on_iret hx hb hr hlk hP hD hS dX5_count_96
              · have hM := on_neg c_12 hM
                refine lv_tableOut (tgt := 97) hx hb dX5_count_1 (on_swOut (n := 7) (fun k hk => by rcases (show k = 0 ∨ k = 1 ∨ k = 2 ∨ k = 3 ∨ k = 4 ∨ k = 5 ∨ k = 6 by omega) with rfl | rfl | rfl | rfl | rfl | rfl | rfl <;> first | exact c_6 | exact c_7 | exact c_8 | exact c_9 | exact c_10 | exact c_11 | exact c_12) (by decide)) (by decide) ?_
                refine lv_bipush (v := -2) hx hb dX5_count_97 (by decide) ?_
                have hM := Option.some.inj hM
                subst hM
                rw [← hQ]
                exact on_iret hx hb hr hlk hP hD hS dX5_count_99
abbrev rm_X6_in : Room := { frames := 0, cells := 0, slots := 0, locals := 0 }
set_option maxHeartbeats 4000000 in
set_option maxRecDepth 100000 in
theorem k_X6_in {l : Launch} {D : va_G} {cI cJ cZ cS cA : ClassId}   (v0 : Int32) (v1 : Int32) (v2 : Int32) (out : Int32) (hM : M_X6_in v0 v1 v2 = some out) : on_Con l yX6_in wsX6_in rm_X6_in [.int v0, .int v1, .int v2] D (on_T cI cJ cZ cS cA) [] (some (.int out)) [] := by
  unfold M_X6_in at hM
  refine on_enter (cc := cX6_in) (nL := 3) (rt := (some .boolean)) (own := RX6) (by decide +kernel) rfl rfl (Nat.le_of_ble_eq_true rfl) ?_
  intro p e s m below meth c A ls hx hb hml hr hlk hts hown hA hK hN H locs hP hD hS hl
  have hl : lv_has ls 3 [(0, .int v0), (1, .int v1), (2, .int v2)] := hl
  generalize hQ : MQ below (on_Q D (some (.int out)) [] A) _ s 0 0 A = Q
  generalize hAr : List.toArray ([.int v0, .int v1, .int v2] : List Value) = args at hts hQ ⊢
  refine lv_iload_n hx hb dX6_in_0 rfl (lv_at hl 0 rfl) ?_
  refine lv_iload_n hx hb dX6_in_1 rfl (lv_at hl 1 rfl) ?_
  refine lv_icmp_lt (tgt := 14) hx hb dX6_in_2 (by decide) (fun c_1 => ?_) (fun c_1 => ?_)
  · have hM := on_pos c_1 hM
    refine lv_iconst (v := 0) hx hb dX6_in_14 (by decide) ?_
    have hM := Option.some.inj hM
    subst hM
    rw [← hQ]
    exact on_zret hx hb hr hlk hP hD hS rfl dX6_in_15
  · have hM := on_neg c_1 hM
    refine lv_iload_n hx hb dX6_in_5 rfl (lv_at hl 0 rfl) ?_
    refine lv_iload_n hx hb dX6_in_6 rfl (lv_at hl 2 rfl) ?_
    refine lv_icmp_gt (tgt := 14) hx hb dX6_in_7 (by decide) (fun c_2 => ?_) (fun c_2 => ?_)
    · have hM := on_pos c_2 hM
      refine lv_iconst (v := 0) hx hb dX6_in_14 (by decide) ?_
      have hM := Option.some.inj hM
      subst hM
      rw [← hQ]
      exact on_zret hx hb hr hlk hP hD hS rfl dX6_in_15
    · have hM := on_neg c_2 hM
      refine lv_iconst (v := 1) hx hb dX6_in_10 (by decide) ?_
      refine lv_goto (tgt := 15) hx hb dX6_in_11 (by decide) ?_
      have hM := Option.some.inj hM
      subst hM
      rw [← hQ]
      exact on_zret hx hb hr hlk hP hD hS rfl dX6_in_15
abbrev rm_X6_isSlot : Room := { frames := 1, cells := 0, slots := 0, locals := 22 }
set_option maxHeartbeats 4000000 in
set_option maxRecDepth 100000 in
theorem k_X6_isSlot {l : Launch} {D : va_G} {cI cJ cZ cS cA : ClassId}   (v0 : Int32) (out : Int32) (hM : M_X6_isSlot v0 = some out) : on_Con l yX6_isSlot wsX6_isSlot rm_X6_isSlot [.int v0] D (on_T cI cJ cZ cS cA) [] (some (.int out)) [] := by
  unfold M_X6_isSlot at hM
  refine on_enter (cc := cX6_isSlot) (nL := 1) (rt := (some .boolean)) (own := RX6) (by decide +kernel) rfl rfl (Nat.le_of_ble_eq_true rfl) ?_
  intro p e s m below meth c A ls hx hb hml hr hlk hts hown hA hK hN H locs hP hD hS hl
  have hl : lv_has ls 1 [(0, .int v0)] := hl
  generalize hQ : MQ below (on_Q D (some (.int out)) [] A) _ s 0 0 A = Q
  generalize hAr : List.toArray ([.int v0] : List Value) = args at hts hQ ⊢
  refine lv_iload_n hx hb dX6_isSlot_0 rfl (lv_at hl 0 rfl) ?_
  refine lv_iconst (v := 0) hx hb dX6_isSlot_1 (by decide) ?_
  refine lv_iconst (v := 2) hx hb dX6_isSlot_2 (by decide) ?_
  obtain ⟨q_1, hq_1, hM⟩ := on_bind hM
  refine on_callS0 (rest := []) (As := [.int v0, .int (0 : Int32), .int (2 : Int32)]) (st1 := [.int q_1]) ⟨hx, hb, hml, hown, hts⟩ (k_X6_in v0 (0 : Int32) (2 : Int32) q_1 hq_1) (va_cwS 3 hts gX6_isSlot_X6_in rfl rfl rfl hdX6_in ⟨(Nat.le_of_ble_eq_true rfl), (Nat.le_of_ble_eq_true rfl)⟩) hK hN hP hD hS hA rfl hl.1 rfl (Nat.le_of_ble_eq_true rfl) rfl dX6_isSlot_3 ⟨Nat.zero_le _, Nat.zero_le _⟩ (fun H locs hP hS => ?_)
  obtain ⟨g_2, hM⟩ := on_gdE hM
  have hM := Option.some.inj hM
  subst hM
  rw [← hQ]
  exact on_zret hx hb hr hlk hP hD hS g_2 dX6_isSlot_6
abbrev rm_X6_isNode : Room := { frames := 1, cells := 0, slots := 0, locals := 22 }
set_option maxHeartbeats 4000000 in
set_option maxRecDepth 100000 in
theorem k_X6_isNode {l : Launch} {D : va_G} {cI cJ cZ cS cA : ClassId} (h_t : Nat) (h_t_state : Nat) (h_t_images : Nat) (h_t_isKept : Nat) (h_t_pad : Nat) (h_t_row : Nat) (h_t_isUsed : Nat) (h_t_table : Nat) (t_said : Int32) (t_leastSize : Int32) (t_leastSet : Int32) (t_found : Int32) (t_rank : Int32) (t_determinant : Int64) (t_state : Nat → Int32) (v1 : Int32) (out : Int32) (hM : M_X6_isNode v1 t_state = some out) : on_Con l yX6_isNode wsX6_isNode rm_X6_isNode [.ref h_t, .int v1] D (on_T cI cJ cZ cS cA) [(h_t, .inr (6, [.ref h_t_state, .ref h_t_images, .ref h_t_isKept, .ref h_t_pad, .int t_said, .int t_leastSize, .int t_leastSet, .int t_found, .ref h_t_row, .ref h_t_isUsed, .ref h_t_table, .int t_rank, .long t_determinant])), (h_t_state, .inl (cI, 4, .inl t_state))] (some (.int out)) [(h_t, .inr (6, [.ref h_t_state, .ref h_t_images, .ref h_t_isKept, .ref h_t_pad, .int t_said, .int t_leastSize, .int t_leastSet, .int t_found, .ref h_t_row, .ref h_t_isUsed, .ref h_t_table, .int t_rank, .long t_determinant])), (h_t_state, .inl (cI, 4, .inl t_state))] := by
  unfold M_X6_isNode at hM
  refine on_enter (cc := cX6_isNode) (nL := 2) (rt := (some .boolean)) (own := RX6) (by decide +kernel) rfl rfl (Nat.le_of_ble_eq_true rfl) ?_
  intro p e s m below meth c A ls hx hb hml hr hlk hts hown hA hK hN H locs hP hD hS hl
  have hl : lv_has ls 2 [(0, .ref h_t), (1, .int v1)] := hl
  generalize hQ : MQ below (on_Q D (some (.int out)) [(h_t, .inr (6, [.ref h_t_state, .ref h_t_images, .ref h_t_isKept, .ref h_t_pad, .int t_said, .int t_leastSize, .int t_leastSet, .int t_found, .ref h_t_row, .ref h_t_isUsed, .ref h_t_table, .int t_rank, .long t_determinant])), (h_t_state, .inl (cI, 4, .inl t_state))] A) _ s 0 0 A = Q
  generalize hAr : List.toArray ([.ref h_t, .int v1] : List Value) = args at hts hQ ⊢
  have w1 := hts (.fieldLink RX6 7 "OddNetsModel" "state" "[I") (by decide +kernel)
  have w2 : ∀ w ∈ wsX60, w ∈ wsX6_isNode := by decide +kernel
  refine lv_iload_n hx hb dX6_isNode_0 rfl (lv_at hl 1 rfl) ?_
  refine lv_iconst (v := 0) hx hb dX6_isNode_1 (by decide) ?_
  refine lv_aload_n hx hb dX6_isNode_2 rfl (lv_at hl 0 rfl) ?_
  refine va_get (D := D) (ci := 6) (v := .ref h_t_state) (C := RX6) (T := TX6) (N := 13) hx hb hts w2 hown hK hP 0 rfl rfl 0 (by decide) w1 (fun _ h9 => h9) rfl dX6_isNode_3 ?_
  refine lv_iconst (v := 0) hx hb dX6_isNode_6 (by decide) ?_
  obtain ⟨g_1, hM⟩ := on_gdE hM
  refine va_iald hx hb hK hP 1 0 rfl rfl (on_ixE g_1) dX6_isNode_7 ?_
  refine lv_iconst (v := 1) hx hb dX6_isNode_8 (by decide) ?_
  refine lv_isub hx hb dX6_isNode_9 ?_
  obtain ⟨q_2, hq_2, hM⟩ := on_bind hM
  refine on_callS0 (rest := []) (As := [.int v1, .int (0 : Int32), .int ((t_state (Int32.toNatClampNeg (0 : Int32))) - (1 : Int32))]) (st1 := [.int q_2]) ⟨hx, hb, hml, hown, hts⟩ (k_X6_in v1 (0 : Int32) ((t_state (Int32.toNatClampNeg (0 : Int32))) - (1 : Int32)) q_2 hq_2) (va_cwS 3 hts gX6_isNode_X6_in rfl rfl rfl hdX6_in ⟨(Nat.le_of_ble_eq_true rfl), (Nat.le_of_ble_eq_true rfl)⟩) hK hN hP hD hS hA rfl hl.1 rfl (Nat.le_of_ble_eq_true rfl) rfl dX6_isNode_10 ⟨Nat.zero_le _, Nat.zero_le _⟩ (fun H locs hP hS => ?_)
  obtain ⟨g_3, hM⟩ := on_gdE hM
  have hM := Option.some.inj hM
  subst hM
  rw [← hQ]
  exact on_zret hx hb hr hlk hP hD hS g_3 dX6_isNode_13
abbrev rm_X6_pairs : Room := { frames := 0, cells := 0, slots := 0, locals := 0 }
set_option maxHeartbeats 4000000 in
set_option maxRecDepth 100000 in
theorem k_X6_pairs {l : Launch} {D : va_G} {cI cJ cZ cS cA : ClassId}   (v0 : Int32) (out : Int32) (hM : M_X6_pairs v0 = some out) : on_Con l yX6_pairs wsX6_pairs rm_X6_pairs [.int v0] D (on_T cI cJ cZ cS cA) [] (some (.int out)) [] := by
  unfold M_X6_pairs at hM
  refine on_enter (cc := cX6_pairs) (nL := 1) (rt := (some .int)) (own := RX6) (by decide +kernel) rfl rfl (Nat.le_of_ble_eq_true rfl) ?_
  intro p e s m below meth c A ls hx hb hml hr hlk hts hown hA hK hN H locs hP hD hS hl
  have hl : lv_has ls 1 [(0, .int v0)] := hl
  generalize hQ : MQ below (on_Q D (some (.int out)) [] A) _ s 0 0 A = Q
  generalize hAr : List.toArray ([.int v0] : List Value) = args at hts hQ ⊢
  refine lv_iload_n hx hb dX6_pairs_0 rfl (lv_at hl 0 rfl) ?_
  refine lv_iload_n hx hb dX6_pairs_1 rfl (lv_at hl 0 rfl) ?_
  refine lv_iconst (v := 1) hx hb dX6_pairs_2 (by decide) ?_
  refine lv_isub hx hb dX6_pairs_3 ?_
  refine lv_imul hx hb dX6_pairs_4 ?_
  refine lv_iconst (v := 2) hx hb dX6_pairs_5 (by decide) ?_
  refine lv_idiv hx hb dX6_pairs_6 (by decide) ?_
  have hM := Option.some.inj hM
  subst hM
  rw [← hQ]
  exact on_iret hx hb hr hlk hP hD hS dX6_pairs_7
abbrev rm_X6_triples : Room := { frames := 0, cells := 0, slots := 0, locals := 0 }
set_option maxHeartbeats 4000000 in
set_option maxRecDepth 100000 in
theorem k_X6_triples {l : Launch} {D : va_G} {cI cJ cZ cS cA : ClassId}   (v0 : Int32) (out : Int32) (hM : M_X6_triples v0 = some out) : on_Con l yX6_triples wsX6_triples rm_X6_triples [.int v0] D (on_T cI cJ cZ cS cA) [] (some (.int out)) [] := by
  unfold M_X6_triples at hM
  refine on_enter (cc := cX6_triples) (nL := 1) (rt := (some .int)) (own := RX6) (by decide +kernel) rfl rfl (Nat.le_of_ble_eq_true rfl) ?_
  intro p e s m below meth c A ls hx hb hml hr hlk hts hown hA hK hN H locs hP hD hS hl
  have hl : lv_has ls 1 [(0, .int v0)] := hl
  generalize hQ : MQ below (on_Q D (some (.int out)) [] A) _ s 0 0 A = Q
  generalize hAr : List.toArray ([.int v0] : List Value) = args at hts hQ ⊢
  refine lv_iload_n hx hb dX6_triples_0 rfl (lv_at hl 0 rfl) ?_
  refine lv_iload_n hx hb dX6_triples_1 rfl (lv_at hl 0 rfl) ?_
  refine lv_iconst (v := 1) hx hb dX6_triples_2 (by decide) ?_
  refine lv_isub hx hb dX6_triples_3 ?_
  refine lv_imul hx hb dX6_triples_4 ?_
  refine lv_iload_n hx hb dX6_triples_5 rfl (lv_at hl 0 rfl) ?_
  refine lv_iconst (v := 2) hx hb dX6_triples_6 (by decide) ?_
  refine lv_isub hx hb dX6_triples_7 ?_
  refine lv_imul hx hb dX6_triples_8 ?_
  refine lv_bipush (v := 6) hx hb dX6_triples_9 (by decide) ?_
  refine lv_idiv hx hb dX6_triples_11 (by decide) ?_
  have hM := Option.some.inj hM
  subst hM
  rw [← hQ]
  exact on_iret hx hb hr hlk hP hD hS dX6_triples_12
abbrev rm_X6_valueOf : Room := { frames := 1, cells := 0, slots := 0, locals := 20 }
set_option maxHeartbeats 4000000 in
set_option maxRecDepth 100000 in
theorem k_X6_valueOf {l : Launch} {D : va_G} {cI cJ cZ cS cA : ClassId}   (v0 : Int32) (v1 : Int32) (v2 : Int32) (out : Int32) (hM : M_X6_valueOf v0 v1 v2 = some out) : on_Con l yX6_valueOf wsX6_valueOf rm_X6_valueOf [.int v0, .int v1, .int v2] D (on_T cI cJ cZ cS cA) [] (some (.int out)) [] := by
  unfold M_X6_valueOf at hM
  refine on_enter (cc := cX6_valueOf) (nL := 6) (rt := (some .int)) (own := RX6) (by decide +kernel) rfl rfl (Nat.le_of_ble_eq_true rfl) ?_
  intro p e s m below meth c A ls hx hb hml hr hlk hts hown hA hK hN H locs hP hD hS hl
  have hl : lv_has ls 6 [(0, .int v0), (1, .int v1), (2, .int v2)] := hl
  generalize hQ : MQ below (on_Q D (some (.int out)) [] A) _ s 0 0 A = Q
  generalize hAr : List.toArray ([.int v0, .int v1, .int v2] : List Value) = args at hts hQ ⊢
  refine lv_iload_n hx hb dX6_valueOf_0 rfl (lv_at hl 1 rfl) ?_
  refine lv_iload_n hx hb dX6_valueOf_1 rfl (lv_at hl 2 rfl) ?_
  refine lv_icmp_ge (tgt := 9) hx hb dX6_valueOf_2 (by decide) (fun c_1 => ?_) (fun c_1 => ?_)
  · have hM := on_pos c_1 hM
    refine lv_iload_n hx hb dX6_valueOf_9 rfl (lv_at hl 2 rfl) ?_
    refine lv_istore_n (lv' := [(3, .int v2), (0, .int v0), (1, .int v1), (2, .int v2)]) hx hb dX6_valueOf_10 rfl hl (by decide) rfl (fun ls hl => ?_)
    refine lv_iload_n hx hb dX6_valueOf_11 rfl (lv_at hl 2 rfl) ?_
    refine lv_iload_n hx hb dX6_valueOf_12 rfl (lv_at hl 3 rfl) ?_
    refine lv_icmp_ge (tgt := 20) hx hb dX6_valueOf_13 (by decide) (fun c_2 => ?_) (fun c_2 => ?_)
    · have hM := on_pos c_2 hM
      refine lv_iload_n hx hb dX6_valueOf_20 rfl (lv_at hl 2 rfl) ?_
      refine lv_istore (lv' := [(4, .int v1), (3, .int v2), (0, .int v0), (1, .int v1), (2, .int v2)]) hx hb dX6_valueOf_21 hl (by decide) rfl (fun ls hl => ?_)
      refine lv_iload_n hx hb dX6_valueOf_23 rfl (lv_at hl 1 rfl) ?_
      refine lv_iconst (v := 2) hx hb dX6_valueOf_24 (by decide) ?_
      refine lv_iload_n hx hb dX6_valueOf_25 rfl (lv_at hl 2 rfl) ?_
      refine lv_imul hx hb dX6_valueOf_26 ?_
      refine lv_iload_n hx hb dX6_valueOf_27 rfl (lv_at hl 1 rfl) ?_
      refine lv_isub hx hb dX6_valueOf_28 ?_
      refine lv_iconst (v := 1) hx hb dX6_valueOf_29 (by decide) ?_
      refine lv_isub hx hb dX6_valueOf_30 ?_
      refine lv_imul hx hb dX6_valueOf_31 ?_
      refine lv_iconst (v := 2) hx hb dX6_valueOf_32 (by decide) ?_
      refine lv_idiv hx hb dX6_valueOf_33 (by decide) ?_
      refine lv_iload hx hb dX6_valueOf_34 (lv_at hl 0 rfl) ?_
      refine lv_iadd hx hb dX6_valueOf_36 ?_
      refine lv_iload_n hx hb dX6_valueOf_37 rfl (lv_at hl 1 rfl) ?_
      refine lv_isub hx hb dX6_valueOf_38 ?_
      refine lv_iconst (v := 1) hx hb dX6_valueOf_39 (by decide) ?_
      refine lv_isub hx hb dX6_valueOf_40 ?_
      refine lv_topi (fun v5_3 ev5_3 => ?_)
      have hM := on_letE ev5_3 hM
      refine lv_istore (lv' := [(5, .int v5_3), (4, .int v1), (3, .int v2), (0, .int v0), (1, .int v1), (2, .int v2)]) hx hb dX6_valueOf_41 hl (by decide) rfl (fun ls hl => ?_)
      refine lv_iconst (v := 1) hx hb dX6_valueOf_43 (by decide) ?_
      refine lv_iload_n hx hb dX6_valueOf_44 rfl (lv_at hl 3 rfl) ?_
      obtain ⟨q_4, hq_4, hM⟩ := on_bind hM
      refine on_callS0 (rest := [.int (1 : Int32)]) (As := [.int v0]) (st1 := [.int q_4, .int (1 : Int32)]) ⟨hx, hb, hml, hown, hts⟩ (k_X6_pairs v0 q_4 hq_4) (va_cwS 1 hts gX6_valueOf_X6_pairs rfl rfl rfl hdX6_pairs ⟨(Nat.le_of_ble_eq_true rfl), (Nat.le_of_ble_eq_true rfl)⟩) hK hN hP hD hS hA rfl hl.1 rfl (Nat.le_of_ble_eq_true rfl) rfl dX6_valueOf_45 ⟨Nat.zero_le _, Nat.zero_le _⟩ (fun H locs hP hS => ?_)
      refine lv_iconst (v := 1) hx hb dX6_valueOf_48 (by decide) ?_
      refine lv_isub hx hb dX6_valueOf_49 ?_
      refine lv_iload hx hb dX6_valueOf_50 (lv_at hl 0 rfl) ?_
      refine lv_isub hx hb dX6_valueOf_52 ?_
      refine lv_ishl hx hb dX6_valueOf_53 ?_
      have hM := Option.some.inj hM
      subst hM
      rw [← hQ]
      exact on_iret hx hb hr hlk hP hD hS dX6_valueOf_54
    · have hM := on_neg c_2 hM
      refine lv_iload_n hx hb dX6_valueOf_16 rfl (lv_at hl 3 rfl) ?_
      refine lv_goto (tgt := 21) hx hb dX6_valueOf_17 (by decide) ?_
      refine lv_istore (lv' := [(4, .int v2), (3, .int v2), (0, .int v0), (1, .int v1), (2, .int v2)]) hx hb dX6_valueOf_21 hl (by decide) rfl (fun ls hl => ?_)
      refine lv_iload_n hx hb dX6_valueOf_23 rfl (lv_at hl 1 rfl) ?_
      refine lv_iconst (v := 2) hx hb dX6_valueOf_24 (by decide) ?_
      refine lv_iload_n hx hb dX6_valueOf_25 rfl (lv_at hl 2 rfl) ?_
      refine lv_imul hx hb dX6_valueOf_26 ?_
      refine lv_iload_n hx hb dX6_valueOf_27 rfl (lv_at hl 1 rfl) ?_
      refine lv_isub hx hb dX6_valueOf_28 ?_
      refine lv_iconst (v := 1) hx hb dX6_valueOf_29 (by decide) ?_
      refine lv_isub hx hb dX6_valueOf_30 ?_
      refine lv_imul hx hb dX6_valueOf_31 ?_
      refine lv_iconst (v := 2) hx hb dX6_valueOf_32 (by decide) ?_
      refine lv_idiv hx hb dX6_valueOf_33 (by decide) ?_
      refine lv_iload hx hb dX6_valueOf_34 (lv_at hl 0 rfl) ?_
      refine lv_iadd hx hb dX6_valueOf_36 ?_
      refine lv_iload_n hx hb dX6_valueOf_37 rfl (lv_at hl 1 rfl) ?_
      refine lv_isub hx hb dX6_valueOf_38 ?_
      refine lv_iconst (v := 1) hx hb dX6_valueOf_39 (by decide) ?_
      refine lv_isub hx hb dX6_valueOf_40 ?_
      refine lv_topi (fun v5_5 ev5_5 => ?_)
      have hM := on_letE ev5_5 hM
      refine lv_istore (lv' := [(5, .int v5_5), (4, .int v2), (3, .int v2), (0, .int v0), (1, .int v1), (2, .int v2)]) hx hb dX6_valueOf_41 hl (by decide) rfl (fun ls hl => ?_)
      refine lv_iconst (v := 1) hx hb dX6_valueOf_43 (by decide) ?_
      refine lv_iload_n hx hb dX6_valueOf_44 rfl (lv_at hl 3 rfl) ?_
      obtain ⟨q_6, hq_6, hM⟩ := on_bind hM
      refine on_callS0 (rest := [.int (1 : Int32)]) (As := [.int v0]) (st1 := [.int q_6, .int (1 : Int32)]) ⟨hx, hb, hml, hown, hts⟩ (k_X6_pairs v0 q_6 hq_6) (va_cwS 1 hts gX6_valueOf_X6_pairs rfl rfl rfl hdX6_pairs ⟨(Nat.le_of_ble_eq_true rfl), (Nat.le_of_ble_eq_true rfl)⟩) hK hN hP hD hS hA rfl hl.1 rfl (Nat.le_of_ble_eq_true rfl) rfl dX6_valueOf_45 ⟨Nat.zero_le _, Nat.zero_le _⟩ (fun H locs hP hS => ?_)
      refine lv_iconst (v := 1) hx hb dX6_valueOf_48 (by decide) ?_
      refine lv_isub hx hb dX6_valueOf_49 ?_
      refine lv_iload hx hb dX6_valueOf_50 (lv_at hl 0 rfl) ?_
      refine lv_isub hx hb dX6_valueOf_52 ?_
      refine lv_ishl hx hb dX6_valueOf_53 ?_
      have hM := Option.some.inj hM
      subst hM
      rw [← hQ]
      exact on_iret hx hb hr hlk hP hD hS dX6_valueOf_54
  · have hM := on_neg c_1 hM
    refine lv_iload_n hx hb dX6_valueOf_5 rfl (lv_at hl 1 rfl) ?_
    refine lv_goto (tgt := 10) hx hb dX6_valueOf_6 (by decide) ?_
    refine lv_istore_n (lv' := [(3, .int v1), (0, .int v0), (1, .int v1), (2, .int v2)]) hx hb dX6_valueOf_10 rfl hl (by decide) rfl (fun ls hl => ?_)
    refine lv_iload_n hx hb dX6_valueOf_11 rfl (lv_at hl 2 rfl) ?_
    refine lv_iload_n hx hb dX6_valueOf_12 rfl (lv_at hl 3 rfl) ?_
    refine lv_icmp_ge (tgt := 20) hx hb dX6_valueOf_13 (by decide) (fun c_7 => ?_) (fun c_7 => ?_)
    · have hM := on_pos c_7 hM
      refine lv_iload_n hx hb dX6_valueOf_20 rfl (lv_at hl 2 rfl) ?_
      refine lv_istore (lv' := [(4, .int v1), (3, .int v1), (0, .int v0), (1, .int v1), (2, .int v2)]) hx hb dX6_valueOf_21 hl (by decide) rfl (fun ls hl => ?_)
      refine lv_iload_n hx hb dX6_valueOf_23 rfl (lv_at hl 1 rfl) ?_
      refine lv_iconst (v := 2) hx hb dX6_valueOf_24 (by decide) ?_
      refine lv_iload_n hx hb dX6_valueOf_25 rfl (lv_at hl 2 rfl) ?_
      refine lv_imul hx hb dX6_valueOf_26 ?_
      refine lv_iload_n hx hb dX6_valueOf_27 rfl (lv_at hl 1 rfl) ?_
      refine lv_isub hx hb dX6_valueOf_28 ?_
      refine lv_iconst (v := 1) hx hb dX6_valueOf_29 (by decide) ?_
      refine lv_isub hx hb dX6_valueOf_30 ?_
      refine lv_imul hx hb dX6_valueOf_31 ?_
      refine lv_iconst (v := 2) hx hb dX6_valueOf_32 (by decide) ?_
      refine lv_idiv hx hb dX6_valueOf_33 (by decide) ?_
      refine lv_iload hx hb dX6_valueOf_34 (lv_at hl 0 rfl) ?_
      refine lv_iadd hx hb dX6_valueOf_36 ?_
      refine lv_iload_n hx hb dX6_valueOf_37 rfl (lv_at hl 1 rfl) ?_
      refine lv_isub hx hb dX6_valueOf_38 ?_
      refine lv_iconst (v := 1) hx hb dX6_valueOf_39 (by decide) ?_
      refine lv_isub hx hb dX6_valueOf_40 ?_
      refine lv_topi (fun v5_8 ev5_8 => ?_)
      have hM := on_letE ev5_8 hM
      refine lv_istore (lv' := [(5, .int v5_8), (4, .int v1), (3, .int v1), (0, .int v0), (1, .int v1), (2, .int v2)]) hx hb dX6_valueOf_41 hl (by decide) rfl (fun ls hl => ?_)
      refine lv_iconst (v := 1) hx hb dX6_valueOf_43 (by decide) ?_
      refine lv_iload_n hx hb dX6_valueOf_44 rfl (lv_at hl 3 rfl) ?_
      obtain ⟨q_9, hq_9, hM⟩ := on_bind hM
      refine on_callS0 (rest := [.int (1 : Int32)]) (As := [.int v0]) (st1 := [.int q_9, .int (1 : Int32)]) ⟨hx, hb, hml, hown, hts⟩ (k_X6_pairs v0 q_9 hq_9) (va_cwS 1 hts gX6_valueOf_X6_pairs rfl rfl rfl hdX6_pairs ⟨(Nat.le_of_ble_eq_true rfl), (Nat.le_of_ble_eq_true rfl)⟩) hK hN hP hD hS hA rfl hl.1 rfl (Nat.le_of_ble_eq_true rfl) rfl dX6_valueOf_45 ⟨Nat.zero_le _, Nat.zero_le _⟩ (fun H locs hP hS => ?_)
      refine lv_iconst (v := 1) hx hb dX6_valueOf_48 (by decide) ?_
      refine lv_isub hx hb dX6_valueOf_49 ?_
      refine lv_iload hx hb dX6_valueOf_50 (lv_at hl 0 rfl) ?_
      refine lv_isub hx hb dX6_valueOf_52 ?_
      refine lv_ishl hx hb dX6_valueOf_53 ?_
      have hM := Option.some.inj hM
      subst hM
      rw [← hQ]
      exact on_iret hx hb hr hlk hP hD hS dX6_valueOf_54
    · have hM := on_neg c_7 hM
      refine lv_iload_n hx hb dX6_valueOf_16 rfl (lv_at hl 3 rfl) ?_
      refine lv_goto (tgt := 21) hx hb dX6_valueOf_17 (by decide) ?_
      refine lv_istore (lv' := [(4, .int v2), (3, .int v1), (0, .int v0), (1, .int v1), (2, .int v2)]) hx hb dX6_valueOf_21 hl (by decide) rfl (fun ls hl => ?_)
      refine lv_iload_n hx hb dX6_valueOf_23 rfl (lv_at hl 1 rfl) ?_
      refine lv_iconst (v := 2) hx hb dX6_valueOf_24 (by decide) ?_
      refine lv_iload_n hx hb dX6_valueOf_25 rfl (lv_at hl 2 rfl) ?_
      refine lv_imul hx hb dX6_valueOf_26 ?_
      refine lv_iload_n hx hb dX6_valueOf_27 rfl (lv_at hl 1 rfl) ?_
      refine lv_isub hx hb dX6_valueOf_28 ?_
      refine lv_iconst (v := 1) hx hb dX6_valueOf_29 (by decide) ?_
      refine lv_isub hx hb dX6_valueOf_30 ?_
      refine lv_imul hx hb dX6_valueOf_31 ?_
      refine lv_iconst (v := 2) hx hb dX6_valueOf_32 (by decide) ?_
      refine lv_idiv hx hb dX6_valueOf_33 (by decide) ?_
      refine lv_iload hx hb dX6_valueOf_34 (lv_at hl 0 rfl) ?_
      refine lv_iadd hx hb dX6_valueOf_36 ?_
      refine lv_iload_n hx hb dX6_valueOf_37 rfl (lv_at hl 1 rfl) ?_
      refine lv_isub hx hb dX6_valueOf_38 ?_
      refine lv_iconst (v := 1) hx hb dX6_valueOf_39 (by decide) ?_
      refine lv_isub hx hb dX6_valueOf_40 ?_
      refine lv_topi (fun v5_10 ev5_10 => ?_)
      have hM := on_letE ev5_10 hM
      refine lv_istore (lv' := [(5, .int v5_10), (4, .int v2), (3, .int v1), (0, .int v0), (1, .int v1), (2, .int v2)]) hx hb dX6_valueOf_41 hl (by decide) rfl (fun ls hl => ?_)
      refine lv_iconst (v := 1) hx hb dX6_valueOf_43 (by decide) ?_
      refine lv_iload_n hx hb dX6_valueOf_44 rfl (lv_at hl 3 rfl) ?_
      obtain ⟨q_11, hq_11, hM⟩ := on_bind hM
      refine on_callS0 (rest := [.int (1 : Int32)]) (As := [.int v0]) (st1 := [.int q_11, .int (1 : Int32)]) ⟨hx, hb, hml, hown, hts⟩ (k_X6_pairs v0 q_11 hq_11) (va_cwS 1 hts gX6_valueOf_X6_pairs rfl rfl rfl hdX6_pairs ⟨(Nat.le_of_ble_eq_true rfl), (Nat.le_of_ble_eq_true rfl)⟩) hK hN hP hD hS hA rfl hl.1 rfl (Nat.le_of_ble_eq_true rfl) rfl dX6_valueOf_45 ⟨Nat.zero_le _, Nat.zero_le _⟩ (fun H locs hP hS => ?_)
      refine lv_iconst (v := 1) hx hb dX6_valueOf_48 (by decide) ?_
      refine lv_isub hx hb dX6_valueOf_49 ?_
      refine lv_iload hx hb dX6_valueOf_50 (lv_at hl 0 rfl) ?_
      refine lv_isub hx hb dX6_valueOf_52 ?_
      refine lv_ishl hx hb dX6_valueOf_53 ?_
      have hM := Option.some.inj hM
      subst hM
      rw [← hQ]
      exact on_iret hx hb hr hlk hP hD hS dX6_valueOf_54
abbrev rm_X6_joined : Room := { frames := 2, cells := 0, slots := 0, locals := 45 }
set_option maxHeartbeats 4000000 in
set_option maxRecDepth 100000 in
theorem k_X6_joined {l : Launch} {D : va_G} {cI cJ cZ cS cA : ClassId}   (v0 : Int32) (v1 : Int32) (v2 : Int32) (v3 : Int32) (out : Int32) (hM : M_X6_joined v0 v1 v2 v3 = some out) : on_Con l yX6_joined wsX6_joined rm_X6_joined [.int v0, .int v1, .int v2, .int v3] D (on_T cI cJ cZ cS cA) [] (some (.int out)) [] := by
  unfold M_X6_joined at hM
  refine on_enter (cc := cX6_joined) (nL := 4) (rt := (some .int)) (own := RX6) (by decide +kernel) rfl rfl (Nat.le_of_ble_eq_true rfl) ?_
  intro p e s m below meth c A ls hx hb hml hr hlk hts hown hA hK hN H locs hP hD hS hl
  have hl : lv_has ls 4 [(0, .int v0), (1, .int v1), (2, .int v2), (3, .int v3)] := hl
  generalize hQ : MQ below (on_Q D (some (.int out)) [] A) _ s 0 0 A = Q
  generalize hAr : List.toArray ([.int v0, .int v1, .int v2, .int v3] : List Value) = args at hts hQ ⊢
  refine lv_iload_n hx hb dX6_joined_0 rfl (lv_at hl 2 rfl) ?_
  refine lv_iload_n hx hb dX6_joined_1 rfl (lv_at hl 3 rfl) ?_
  refine lv_icmp_eq (tgt := 20) hx hb dX6_joined_2 (by decide) (fun c_1 => ?_) (fun c_1 => ?_)
  · have hM := on_pos c_1 hM
    refine lv_iconst (v := 0) hx hb dX6_joined_20 (by decide) ?_
    have hM := Option.some.inj hM
    subst hM
    rw [← hQ]
    exact on_iret hx hb hr hlk hP hD hS dX6_joined_21
  · have hM := on_neg c_1 hM
    refine lv_iload_n hx hb dX6_joined_5 rfl (lv_at hl 1 rfl) ?_
    refine lv_iload_n hx hb dX6_joined_6 rfl (lv_at hl 0 rfl) ?_
    refine lv_iload_n hx hb dX6_joined_7 rfl (lv_at hl 2 rfl) ?_
    refine lv_iload_n hx hb dX6_joined_8 rfl (lv_at hl 3 rfl) ?_
    obtain ⟨q_2, hq_2, hM⟩ := on_bind hM
    refine on_callS0 (rest := [.int v1]) (As := [.int v0, .int v2, .int v3]) (st1 := [.int q_2, .int v1]) ⟨hx, hb, hml, hown, hts⟩ (k_X6_valueOf v0 v2 v3 q_2 hq_2) (va_cwS 3 hts gX6_joined_X6_valueOf rfl rfl rfl hdX6_valueOf ⟨(Nat.le_of_ble_eq_true rfl), (Nat.le_of_ble_eq_true rfl)⟩) hK hN hP hD hS hA rfl hl.1 rfl (Nat.le_of_ble_eq_true rfl) rfl dX6_joined_9 ⟨Nat.zero_le _, Nat.zero_le _⟩ (fun H locs hP hS => ?_)
    refine lv_iand hx hb dX6_joined_12 ?_
    refine lv_if_eq (tgt := 20) hx hb dX6_joined_13 (by decide) (fun c_3 => ?_) (fun c_3 => ?_)
    · have hM := on_pos c_3 hM
      refine lv_iconst (v := 0) hx hb dX6_joined_20 (by decide) ?_
      have hM := Option.some.inj hM
      subst hM
      rw [← hQ]
      exact on_iret hx hb hr hlk hP hD hS dX6_joined_21
    · have hM := on_neg c_3 hM
      refine lv_iconst (v := 1) hx hb dX6_joined_16 (by decide) ?_
      refine lv_goto (tgt := 21) hx hb dX6_joined_17 (by decide) ?_
      have hM := Option.some.inj hM
      subst hM
      rw [← hQ]
      exact on_iret hx hb hr hlk hP hD hS dX6_joined_21
abbrev rm_X6_size : Room := { frames := 0, cells := 0, slots := 0, locals := 0 }
set_option maxHeartbeats 4000000 in
set_option maxRecDepth 100000 in
theorem k_X6_size {l : Launch} {D : va_G} {cI cJ cZ cS cA : ClassId}   (v0 : Int32) (out : Int32) (hM : M_X6_size v0 = some out) : on_Con l yX6_size wsX6_size rm_X6_size [.int v0] D (on_T cI cJ cZ cS cA) [] (some (.int out)) [] := by
  unfold M_X6_size at hM
  refine on_enter (cc := cX6_size) (nL := 3) (rt := (some .int)) (own := RX6) (by decide +kernel) rfl rfl (Nat.le_of_ble_eq_true rfl) ?_
  intro p e s m below meth c A ls hx hb hml hr hlk hts hown hA hK hN H locs hP hD hS hl
  have hl : lv_has ls 3 [(0, .int v0)] := hl
  generalize hQ : MQ below (on_Q D (some (.int out)) [] A) _ s 0 0 A = Q
  generalize hAr : List.toArray ([.int v0] : List Value) = args at hts hQ ⊢
  have lp_4 : ∀ (v0 : Int32), ∀ (n : Nat) (v1 : Int32) (v2 : Int32) (x : Int32), on_loop (fun (s : Int32 × Int32) => B_X6_size_4 v0 s.1 s.2) n (v1, v2) = some x → (∀ (H : Heap) (locs : List Loc), va_P D vwCl [] H → va_D A [] → va_S A s.heap H locs → ∀ ls : Array Slot, lv_has ls 3 [(1, .int x)] → W p l e rm_X6_size s m args below meth c H locs 0 0 Q (F0 m 24 ls [])) → ∀ (H : Heap) (locs : List Loc), va_P D vwCl [] H → va_D A [] → va_S A s.heap H locs → ∀ ls : Array Slot, lv_has ls 3 [(0, .int v0), (1, .int v1), (2, .int v2)] → W p l e rm_X6_size s m args below meth c H locs 0 0 Q (F0 m 4 ls []) := by
    intro v0
    intro n
    induction n with
    | zero =>
      intro v1 v2 x hL
      exact (on_loop0 hL).elim
    | succ n ih =>
      intro v1 v2 x hL K1 H locs hP hD hS ls hl
      obtain ⟨y, hM, hk⟩ := on_loopE hL
      have hM : B_X6_size_4 v0 v1 v2 = some y := hM
      unfold B_X6_size_4 at hM
      refine lv_iload_n hx hb dX6_size_4 rfl (lv_at hl 2 rfl) ?_
      refine lv_bipush (v := 21) hx hb dX6_size_5 (by decide) ?_
      refine lv_icmp_ge (tgt := 24) hx hb dX6_size_7 (by decide) (fun c_1 => ?_) (fun c_1 => ?_)
      · have hM := on_pos c_1 hM
        have hk := on_nxR hM hk
        subst hk
        exact K1 _ _ hP hD hS ls (lv_sub hl [1] rfl)
      · have hM := on_neg c_1 hM
        refine lv_iload_n hx hb dX6_size_10 rfl (lv_at hl 1 rfl) ?_
        refine lv_iload_n hx hb dX6_size_11 rfl (lv_at hl 0 rfl) ?_
        refine lv_iload_n hx hb dX6_size_12 rfl (lv_at hl 2 rfl) ?_
        refine lv_ishr hx hb dX6_size_13 ?_
        refine lv_iconst (v := 1) hx hb dX6_size_14 (by decide) ?_
        refine lv_iand hx hb dX6_size_15 ?_
        refine lv_iadd hx hb dX6_size_16 ?_
        refine lv_topi (fun v1_2 ev1_2 => ?_)
        have hM := on_letE ev1_2 hM
        refine lv_istore_n (lv' := [(1, .int v1_2), (0, .int v0), (2, .int v2)]) hx hb dX6_size_17 rfl hl (by decide) rfl (fun ls hl => ?_)
        obtain ⟨v2_3, ev2_3⟩ : ∃ z : Int32, z = v2 + 1 := ⟨_, rfl⟩
        have hM := on_letE ev2_3 hM
        refine lv_iinc (v := v2_3) (lv' := [(2, .int v2_3), (1, .int v1_2), (0, .int v0)]) hx hb dX6_size_18 hl (k := 2) rfl (by rw [ev2_3]; rfl) (by decide) rfl (fun ls hl => ?_)
        refine lv_goto (tgt := 4) hx hb dX6_size_21 (by decide) ?_
        have hk := on_nxL hM hk
        exact ih v1_2 v2_3 _ hk K1 _ _ hP hD hS ls (lv_sub hl [2, 1, 0] rfl)
  refine lv_iconst (v := 0) hx hb dX6_size_0 (by decide) ?_
  refine lv_istore_n (lv' := [(1, .int (0 : Int32)), (0, .int v0)]) hx hb dX6_size_1 rfl hl (by decide) rfl (fun ls hl => ?_)
  refine lv_iconst (v := 0) hx hb dX6_size_2 (by decide) ?_
  refine lv_istore_n (lv' := [(2, .int (0 : Int32)), (1, .int (0 : Int32)), (0, .int v0)]) hx hb dX6_size_3 rfl hl (by decide) rfl (fun ls hl => ?_)
  obtain ⟨q_4, hq_4, hM⟩ := on_bind hM
  refine lp_4 v0 on_F (0 : Int32) (0 : Int32) q_4 hq_4 (fun H locs hP hD hS ls hl => ?_) H locs hP hD hS ls (lv_sub hl [2, 1, 0] rfl)
  refine lv_iload_n hx hb dX6_size_24 rfl (lv_at hl 0 rfl) ?_
  have hM := Option.some.inj hM
  subst hM
  rw [← hQ]
  exact on_iret hx hb hr hlk hP hD hS dX6_size_25
abbrev rm_X6_switched : Room := { frames := 2, cells := 0, slots := 0, locals := 45 }
set_option maxHeartbeats 4000000 in
set_option maxRecDepth 100000 in
theorem k_X6_switched {l : Launch} {D : va_G} {cI cJ cZ cS cA : ClassId}   (v0 : Int32) (v1 : Int32) (v2 : Int32) (out : Int32) (hM : M_X6_switched v0 v1 v2 = some out) : on_Con l yX6_switched wsX6_switched rm_X6_switched [.int v0, .int v1, .int v2] D (on_T cI cJ cZ cS cA) [] (some (.int out)) [] := by
  unfold M_X6_switched at hM
  refine on_enter (cc := cX6_switched) (nL := 6) (rt := (some .int)) (own := RX6) (by decide +kernel) rfl rfl (Nat.le_of_ble_eq_true rfl) ?_
  intro p e s m below meth c A ls hx hb hml hr hlk hts hown hA hK hN H locs hP hD hS hl
  have hl : lv_has ls 6 [(0, .int v0), (1, .int v1), (2, .int v2)] := hl
  generalize hQ : MQ below (on_Q D (some (.int out)) [] A) _ s 0 0 A = Q
  generalize hAr : List.toArray ([.int v0, .int v1, .int v2] : List Value) = args at hts hQ ⊢
  have lp_17 : ∀ (v0 : Int32) (v2 : Int32) (v4 : Int32), ∀ (n : Nat) (v3 : Int32) (v5 : Int32) (x : Int32), on_loop (fun (s : Int32 × Int32) => B_X6_switched_17 v0 v2 v4 s.1 s.2) n (v3, v5) = some x → (∀ (H : Heap) (locs : List Loc), va_P D vwCl [] H → va_D A [] → va_S A s.heap H locs → ∀ ls : Array Slot, lv_has ls 6 [(0, .int v0), (2, .int v2), (3, .int x), (4, .int v4)] → W p l e rm_X6_switched s m args below meth c H locs 0 0 Q (F0 m 59 ls [])) → ∀ (H : Heap) (locs : List Loc), va_P D vwCl [] H → va_D A [] → va_S A s.heap H locs → ∀ ls : Array Slot, lv_has ls 6 [(0, .int v0), (2, .int v2), (3, .int v3), (4, .int v4), (5, .int v5)] → W p l e rm_X6_switched s m args below meth c H locs 0 0 Q (F0 m 17 ls []) := by
    intro v0 v2 v4
    intro n
    induction n with
    | zero =>
      intro v3 v5 x hL
      exact (on_loop0 hL).elim
    | succ n ih =>
      intro v3 v5 x hL K1 H locs hP hD hS ls hl
      obtain ⟨y, hM, hk⟩ := on_loopE hL
      have hM : B_X6_switched_17 v0 v2 v4 v3 v5 = some y := hM
      unfold B_X6_switched_17 at hM
      refine lv_iload hx hb dX6_switched_17 (lv_at hl 4 rfl) ?_
      refine lv_iload_n hx hb dX6_switched_19 rfl (lv_at hl 0 rfl) ?_
      refine lv_icmp_ge (tgt := 59) hx hb dX6_switched_20 (by decide) (fun c_3 => ?_) (fun c_3 => ?_)
      · have hM := on_pos c_3 hM
        have hk := on_nxR hM hk
        subst hk
        exact K1 _ _ hP hD hS ls (lv_sub hl [0, 1, 2, 3] rfl)
      · have hM := on_neg c_3 hM
        refine lv_iload_n hx hb dX6_switched_23 rfl (lv_at hl 2 rfl) ?_
        refine lv_iload_n hx hb dX6_switched_24 rfl (lv_at hl 1 rfl) ?_
        refine lv_iload hx hb dX6_switched_25 (lv_at hl 3 rfl) ?_
        refine lv_ishr hx hb dX6_switched_27 ?_
        refine lv_iconst (v := 1) hx hb dX6_switched_28 (by decide) ?_
        refine lv_iand hx hb dX6_switched_29 ?_
        refine lv_iload_n hx hb dX6_switched_30 rfl (lv_at hl 1 rfl) ?_
        refine lv_iload hx hb dX6_switched_31 (lv_at hl 4 rfl) ?_
        refine lv_ishr hx hb dX6_switched_33 ?_
        refine lv_iconst (v := 1) hx hb dX6_switched_34 (by decide) ?_
        refine lv_iand hx hb dX6_switched_35 ?_
        refine lv_icmp_ne (tgt := 43) hx hb dX6_switched_36 (by decide) (fun c_4 => ?_) (fun c_4 => ?_)
        · have hM := on_neg c_4 hM
          refine lv_iload_n hx hb dX6_switched_43 rfl (lv_at hl 0 rfl) ?_
          refine lv_iload hx hb dX6_switched_44 (lv_at hl 3 rfl) ?_
          refine lv_iload hx hb dX6_switched_46 (lv_at hl 4 rfl) ?_
          obtain ⟨q_5, hq_5, hM⟩ := on_bind hM
          refine on_callS0 (rest := [.int v3]) (As := [.int v0, .int v4, .int v5]) (st1 := [.int q_5, .int v3]) ⟨hx, hb, hml, hown, hts⟩ (k_X6_valueOf v0 v4 v5 q_5 hq_5) (va_cwS 3 hts gX6_switched_X6_valueOf rfl rfl rfl hdX6_valueOf ⟨(Nat.le_of_ble_eq_true rfl), (Nat.le_of_ble_eq_true rfl)⟩) hK hN hP hD hS hA rfl hl.1 rfl (Nat.le_of_ble_eq_true rfl) rfl dX6_switched_48 ⟨Nat.zero_le _, Nat.zero_le _⟩ (fun H locs hP hS => ?_)
          refine lv_ixor hx hb dX6_switched_51 ?_
          refine lv_topi (fun v3_6 ev3_6 => ?_)
          have hM := on_letE ev3_6 hM
          refine lv_istore_n (lv' := [(3, .int v3_6), (0, .int v0), (2, .int v2), (4, .int v4), (5, .int v5)]) hx hb dX6_switched_52 rfl hl (by decide) rfl (fun ls hl => ?_)
          obtain ⟨v5_7, ev5_7⟩ : ∃ z : Int32, z = v5 + 1 := ⟨_, rfl⟩
          have hM := on_letE ev5_7 hM
          refine lv_iinc (v := v5_7) (lv' := [(5, .int v5_7), (3, .int v3_6), (0, .int v0), (2, .int v2), (4, .int v4)]) hx hb dX6_switched_53 hl (k := 4) rfl (by rw [ev5_7]; rfl) (by decide) rfl (fun ls hl => ?_)
          refine lv_goto (tgt := 17) hx hb dX6_switched_56 (by decide) ?_
          have hk := on_nxL hM hk
          exact ih v3_6 v5_7 _ hk K1 _ _ hP hD hS ls (lv_sub hl [2, 3, 1, 4, 0] rfl)
        · have hM := on_pos c_4 hM
          refine lv_iconst (v := 0) hx hb dX6_switched_39 (by decide) ?_
          refine lv_goto (tgt := 51) hx hb dX6_switched_40 (by decide) ?_
          refine lv_ixor hx hb dX6_switched_51 ?_
          refine lv_topi (fun v3_8 ev3_8 => ?_)
          have hM := on_letE ev3_8 hM
          refine lv_istore_n (lv' := [(3, .int v3_8), (0, .int v0), (2, .int v2), (4, .int v4), (5, .int v5)]) hx hb dX6_switched_52 rfl hl (by decide) rfl (fun ls hl => ?_)
          obtain ⟨v5_9, ev5_9⟩ : ∃ z : Int32, z = v5 + 1 := ⟨_, rfl⟩
          have hM := on_letE ev5_9 hM
          refine lv_iinc (v := v5_9) (lv' := [(5, .int v5_9), (3, .int v3_8), (0, .int v0), (2, .int v2), (4, .int v4)]) hx hb dX6_switched_53 hl (k := 4) rfl (by rw [ev5_9]; rfl) (by decide) rfl (fun ls hl => ?_)
          refine lv_goto (tgt := 17) hx hb dX6_switched_56 (by decide) ?_
          have hk := on_nxL hM hk
          exact ih v3_8 v5_9 _ hk K1 _ _ hP hD hS ls (lv_sub hl [2, 3, 1, 4, 0] rfl)
  have lp_5 : ∀ (v0 : Int32) (v2 : Int32), ∀ (n : Nat) (v3 : Int32) (v4 : Int32) (x : Int32), on_loop (fun (s : Int32 × Int32) => B_X6_switched_5 v0 v2 s.1 s.2) n (v3, v4) = some x → (∀ (H : Heap) (locs : List Loc), va_P D vwCl [] H → va_D A [] → va_S A s.heap H locs → ∀ ls : Array Slot, lv_has ls 6 [(3, .int x)] → W p l e rm_X6_switched s m args below meth c H locs 0 0 Q (F0 m 65 ls [])) → ∀ (H : Heap) (locs : List Loc), va_P D vwCl [] H → va_D A [] → va_S A s.heap H locs → ∀ ls : Array Slot, lv_has ls 6 [(0, .int v0), (2, .int v2), (3, .int v3), (4, .int v4)] → W p l e rm_X6_switched s m args below meth c H locs 0 0 Q (F0 m 5 ls []) := by
    intro v0 v2
    intro n
    induction n with
    | zero =>
      intro v3 v4 x hL
      exact (on_loop0 hL).elim
    | succ n ih =>
      intro v3 v4 x hL K1 H locs hP hD hS ls hl
      obtain ⟨y, hM, hk⟩ := on_loopE hL
      have hM : B_X6_switched_5 v0 v2 v3 v4 = some y := hM
      unfold B_X6_switched_5 at hM
      refine lv_iload hx hb dX6_switched_5 (lv_at hl 3 rfl) ?_
      refine lv_iload_n hx hb dX6_switched_7 rfl (lv_at hl 0 rfl) ?_
      refine lv_icmp_ge (tgt := 65) hx hb dX6_switched_8 (by decide) (fun c_1 => ?_) (fun c_1 => ?_)
      · have hM := on_pos c_1 hM
        have hk := on_nxR hM hk
        subst hk
        exact K1 _ _ hP hD hS ls (lv_sub hl [2] rfl)
      · have hM := on_neg c_1 hM
        refine lv_iload hx hb dX6_switched_11 (lv_at hl 3 rfl) ?_
        refine lv_iconst (v := 1) hx hb dX6_switched_13 (by decide) ?_
        refine lv_iadd hx hb dX6_switched_14 ?_
        refine lv_topi (fun v5_2 ev5_2 => ?_)
        have hM := on_letE ev5_2 hM
        refine lv_istore (lv' := [(5, .int v5_2), (0, .int v0), (2, .int v2), (3, .int v3), (4, .int v4)]) hx hb dX6_switched_15 hl (by decide) rfl (fun ls hl => ?_)
        obtain ⟨q_10, hq_10, hM⟩ := on_bind hM
        refine lp_17 v0 v2 v4 on_F v3 v5_2 q_10 hq_10 (fun H locs hP hD hS ls hl => ?_) H locs hP hD hS ls (lv_sub hl [1, 2, 3, 4, 0] rfl)
        obtain ⟨v4_11, ev4_11⟩ : ∃ z : Int32, z = v4 + 1 := ⟨_, rfl⟩
        have hM := on_letE ev4_11 hM
        refine lv_iinc (v := v4_11) (lv' := [(4, .int v4_11), (0, .int v0), (2, .int v2), (3, .int q_10)]) hx hb dX6_switched_59 hl (k := 3) rfl (by rw [ev4_11]; rfl) (by decide) rfl (fun ls hl => ?_)
        refine lv_goto (tgt := 5) hx hb dX6_switched_62 (by decide) ?_
        have hk := on_nxL hM hk
        exact ih q_10 v4_11 _ hk K1 _ _ hP hD hS ls (lv_sub hl [1, 2, 3, 0] rfl)
  refine lv_iload_n hx hb dX6_switched_0 rfl (lv_at hl 1 rfl) ?_
  refine lv_istore_n (lv' := [(3, .int v1), (0, .int v0), (1, .int v1), (2, .int v2)]) hx hb dX6_switched_1 rfl hl (by decide) rfl (fun ls hl => ?_)
  refine lv_iconst (v := 0) hx hb dX6_switched_2 (by decide) ?_
  refine lv_istore (lv' := [(4, .int (0 : Int32)), (3, .int v1), (0, .int v0), (1, .int v1), (2, .int v2)]) hx hb dX6_switched_3 hl (by decide) rfl (fun ls hl => ?_)
  obtain ⟨q_12, hq_12, hM⟩ := on_bind hM
  refine lp_5 v0 v2 on_F v1 (0 : Int32) q_12 hq_12 (fun H locs hP hD hS ls hl => ?_) H locs hP hD hS ls (lv_sub hl [2, 4, 1, 0] rfl)
  refine lv_iload_n hx hb dX6_switched_65 rfl (lv_at hl 0 rfl) ?_
  have hM := Option.some.inj hM
  subst hM
  rw [← hQ]
  exact on_iret hx hb hr hlk hP hD hS dX6_switched_66
abbrev rm_X6_neighbours : Room := { frames := 3, cells := 0, slots := 0, locals := 68 }
set_option maxHeartbeats 4000000 in
set_option maxRecDepth 100000 in
theorem k_X6_neighbours {l : Launch} {D : va_G} {cI cJ cZ cS cA : ClassId}   (v0 : Int32) (v1 : Int32) (v2 : Int32) (out : Int32) (hM : M_X6_neighbours v0 v1 v2 = some out) : on_Con l yX6_neighbours wsX6_neighbours rm_X6_neighbours [.int v0, .int v1, .int v2] D (on_T cI cJ cZ cS cA) [] (some (.int out)) [] := by
  unfold M_X6_neighbours at hM
  refine on_enter (cc := cX6_neighbours) (nL := 5) (rt := (some .int)) (own := RX6) (by decide +kernel) rfl rfl (Nat.le_of_ble_eq_true rfl) ?_
  intro p e s m below meth c A ls hx hb hml hr hlk hts hown hA hK hN H locs hP hD hS hl
  have hl : lv_has ls 5 [(0, .int v0), (1, .int v1), (2, .int v2)] := hl
  generalize hQ : MQ below (on_Q D (some (.int out)) [] A) _ s 0 0 A = Q
  generalize hAr : List.toArray ([.int v0, .int v1, .int v2] : List Value) = args at hts hQ ⊢
  have lp_5 : ∀ (v0 : Int32) (v1 : Int32) (v2 : Int32), ∀ (n : Nat) (v3 : Int32) (v4 : Int32) (x : Int32), on_loop (fun (s : Int32 × Int32) => B_X6_neighbours_5 v0 v1 v2 s.1 s.2) n (v3, v4) = some x → (∀ (H : Heap) (locs : List Loc), va_P D vwCl [] H → va_D A [] → va_S A s.heap H locs → ∀ ls : Array Slot, lv_has ls 5 [(3, .int x)] → W p l e rm_X6_neighbours s m args below meth c H locs 0 0 Q (F0 m 31 ls [])) → ∀ (H : Heap) (locs : List Loc), va_P D vwCl [] H → va_D A [] → va_S A s.heap H locs → ∀ ls : Array Slot, lv_has ls 5 [(0, .int v0), (1, .int v1), (2, .int v2), (3, .int v3), (4, .int v4)] → W p l e rm_X6_neighbours s m args below meth c H locs 0 0 Q (F0 m 5 ls []) := by
    intro v0 v1 v2
    intro n
    induction n with
    | zero =>
      intro v3 v4 x hL
      exact (on_loop0 hL).elim
    | succ n ih =>
      intro v3 v4 x hL K1 H locs hP hD hS ls hl
      obtain ⟨y, hM, hk⟩ := on_loopE hL
      have hM : B_X6_neighbours_5 v0 v1 v2 v3 v4 = some y := hM
      unfold B_X6_neighbours_5 at hM
      refine lv_iload hx hb dX6_neighbours_5 (lv_at hl 4 rfl) ?_
      refine lv_iload_n hx hb dX6_neighbours_7 rfl (lv_at hl 0 rfl) ?_
      refine lv_icmp_ge (tgt := 31) hx hb dX6_neighbours_8 (by decide) (fun c_1 => ?_) (fun c_1 => ?_)
      · have hM := on_pos c_1 hM
        have hk := on_nxR hM hk
        subst hk
        exact K1 _ _ hP hD hS ls (lv_sub hl [3] rfl)
      · have hM := on_neg c_1 hM
        refine lv_iload_n hx hb dX6_neighbours_11 rfl (lv_at hl 3 rfl) ?_
        refine lv_iload_n hx hb dX6_neighbours_12 rfl (lv_at hl 0 rfl) ?_
        refine lv_iload_n hx hb dX6_neighbours_13 rfl (lv_at hl 1 rfl) ?_
        refine lv_iload_n hx hb dX6_neighbours_14 rfl (lv_at hl 2 rfl) ?_
        refine lv_iload hx hb dX6_neighbours_15 (lv_at hl 4 rfl) ?_
        obtain ⟨q_2, hq_2, hM⟩ := on_bind hM
        refine on_callS0 (rest := [.int v3]) (As := [.int v0, .int v1, .int v2, .int v4]) (st1 := [.int q_2, .int v3]) ⟨hx, hb, hml, hown, hts⟩ (k_X6_joined v0 v1 v2 v4 q_2 hq_2) (va_cwS 4 hts gX6_neighbours_X6_joined rfl rfl rfl hdX6_joined ⟨(Nat.le_of_ble_eq_true rfl), (Nat.le_of_ble_eq_true rfl)⟩) hK hN hP hD hS hA rfl hl.1 rfl (Nat.le_of_ble_eq_true rfl) rfl dX6_neighbours_17 ⟨Nat.zero_le _, Nat.zero_le _⟩ (fun H locs hP hS => ?_)
        refine lv_iload hx hb dX6_neighbours_20 (lv_at hl 4 rfl) ?_
        refine lv_ishl hx hb dX6_neighbours_22 ?_
        refine lv_ior hx hb dX6_neighbours_23 ?_
        refine lv_topi (fun v3_3 ev3_3 => ?_)
        have hM := on_letE ev3_3 hM
        refine lv_istore_n (lv' := [(3, .int v3_3), (0, .int v0), (1, .int v1), (2, .int v2), (4, .int v4)]) hx hb dX6_neighbours_24 rfl hl (by decide) rfl (fun ls hl => ?_)
        obtain ⟨v4_4, ev4_4⟩ : ∃ z : Int32, z = v4 + 1 := ⟨_, rfl⟩
        have hM := on_letE ev4_4 hM
        refine lv_iinc (v := v4_4) (lv' := [(4, .int v4_4), (3, .int v3_3), (0, .int v0), (1, .int v1), (2, .int v2)]) hx hb dX6_neighbours_25 hl (k := 4) rfl (by rw [ev4_4]; rfl) (by decide) rfl (fun ls hl => ?_)
        refine lv_goto (tgt := 5) hx hb dX6_neighbours_28 (by decide) ?_
        have hk := on_nxL hM hk
        exact ih v3_3 v4_4 _ hk K1 _ _ hP hD hS ls (lv_sub hl [2, 3, 4, 1, 0] rfl)
  refine lv_iconst (v := 0) hx hb dX6_neighbours_0 (by decide) ?_
  refine lv_istore_n (lv' := [(3, .int (0 : Int32)), (0, .int v0), (1, .int v1), (2, .int v2)]) hx hb dX6_neighbours_1 rfl hl (by decide) rfl (fun ls hl => ?_)
  refine lv_iconst (v := 0) hx hb dX6_neighbours_2 (by decide) ?_
  refine lv_istore (lv' := [(4, .int (0 : Int32)), (3, .int (0 : Int32)), (0, .int v0), (1, .int v1), (2, .int v2)]) hx hb dX6_neighbours_3 hl (by decide) rfl (fun ls hl => ?_)
  obtain ⟨q_5, hq_5, hM⟩ := on_bind hM
  refine lp_5 v0 v1 v2 on_F (0 : Int32) (0 : Int32) q_5 hq_5 (fun H locs hP hD hS ls hl => ?_) H locs hP hD hS ls (lv_sub hl [2, 3, 4, 1, 0] rfl)
  refine lv_iload_n hx hb dX6_neighbours_31 rfl (lv_at hl 0 rfl) ?_
  have hM := Option.some.inj hM
  subst hM
  rw [← hQ]
  exact on_iret hx hb hr hlk hP hD hS dX6_neighbours_32
abbrev rm_X6_degree : Room := { frames := 4, cells := 0, slots := 0, locals := 92 }
set_option maxHeartbeats 4000000 in
set_option maxRecDepth 100000 in
theorem k_X6_degree {l : Launch} {D : va_G} {cI cJ cZ cS cA : ClassId}   (v0 : Int32) (v1 : Int32) (v2 : Int32) (out : Int32) (hM : M_X6_degree v0 v1 v2 = some out) : on_Con l yX6_degree wsX6_degree rm_X6_degree [.int v0, .int v1, .int v2] D (on_T cI cJ cZ cS cA) [] (some (.int out)) [] := by
  unfold M_X6_degree at hM
  refine on_enter (cc := cX6_degree) (nL := 3) (rt := (some .int)) (own := RX6) (by decide +kernel) rfl rfl (Nat.le_of_ble_eq_true rfl) ?_
  intro p e s m below meth c A ls hx hb hml hr hlk hts hown hA hK hN H locs hP hD hS hl
  have hl : lv_has ls 3 [(0, .int v0), (1, .int v1), (2, .int v2)] := hl
  generalize hQ : MQ below (on_Q D (some (.int out)) [] A) _ s 0 0 A = Q
  generalize hAr : List.toArray ([.int v0, .int v1, .int v2] : List Value) = args at hts hQ ⊢
  refine lv_iload_n hx hb dX6_degree_0 rfl (lv_at hl 0 rfl) ?_
  refine lv_iload_n hx hb dX6_degree_1 rfl (lv_at hl 1 rfl) ?_
  refine lv_iload_n hx hb dX6_degree_2 rfl (lv_at hl 2 rfl) ?_
  obtain ⟨q_1, hq_1, hM⟩ := on_bind hM
  refine on_callS0 (rest := []) (As := [.int v0, .int v1, .int v2]) (st1 := [.int q_1]) ⟨hx, hb, hml, hown, hts⟩ (k_X6_neighbours v0 v1 v2 q_1 hq_1) (va_cwS 3 hts gX6_degree_X6_neighbours rfl rfl rfl hdX6_neighbours ⟨(Nat.le_of_ble_eq_true rfl), (Nat.le_of_ble_eq_true rfl)⟩) hK hN hP hD hS hA rfl hl.1 rfl (Nat.le_of_ble_eq_true rfl) rfl dX6_degree_3 ⟨Nat.zero_le _, Nat.zero_le _⟩ (fun H locs hP hS => ?_)
  obtain ⟨q_2, hq_2, hM⟩ := on_bind hM
  refine on_callS0 (rest := []) (As := [.int q_1]) (st1 := [.int q_2]) ⟨hx, hb, hml, hown, hts⟩ (k_X6_size q_1 q_2 hq_2) (va_cwS 1 hts gX6_degree_X6_size rfl rfl rfl hdX6_size ⟨(Nat.le_of_ble_eq_true rfl), (Nat.le_of_ble_eq_true rfl)⟩) hK hN hP hD hS hA rfl hl.1 rfl (Nat.le_of_ble_eq_true rfl) rfl dX6_degree_6 ⟨Nat.zero_le _, Nat.zero_le _⟩ (fun H locs hP hS => ?_)
  have hM := Option.some.inj hM
  subst hM
  rw [← hQ]
  exact on_iret hx hb hr hlk hP hD hS dX6_degree_9
abbrev rm_X6_alone : Room := { frames := 4, cells := 0, slots := 0, locals := 92 }
set_option maxHeartbeats 4000000 in
set_option maxRecDepth 100000 in
theorem k_X6_alone {l : Launch} {D : va_G} {cI cJ cZ cS cA : ClassId}   (v0 : Int32) (v1 : Int32) (v2 : Int32) (out : Int32) (hM : M_X6_alone v0 v1 v2 = some out) : on_Con l yX6_alone wsX6_alone rm_X6_alone [.int v0, .int v1, .int v2] D (on_T cI cJ cZ cS cA) [] (some (.int out)) [] := by
  unfold M_X6_alone at hM
  refine on_enter (cc := cX6_alone) (nL := 3) (rt := (some .int)) (own := RX6) (by decide +kernel) rfl rfl (Nat.le_of_ble_eq_true rfl) ?_
  intro p e s m below meth c A ls hx hb hml hr hlk hts hown hA hK hN H locs hP hD hS hl
  have hl : lv_has ls 3 [(0, .int v0), (1, .int v1), (2, .int v2)] := hl
  generalize hQ : MQ below (on_Q D (some (.int out)) [] A) _ s 0 0 A = Q
  generalize hAr : List.toArray ([.int v0, .int v1, .int v2] : List Value) = args at hts hQ ⊢
  refine lv_iload_n hx hb dX6_alone_0 rfl (lv_at hl 0 rfl) ?_
  refine lv_iload_n hx hb dX6_alone_1 rfl (lv_at hl 1 rfl) ?_
  refine lv_iload_n hx hb dX6_alone_2 rfl (lv_at hl 0 rfl) ?_
  refine lv_iload_n hx hb dX6_alone_3 rfl (lv_at hl 1 rfl) ?_
  refine lv_iload_n hx hb dX6_alone_4 rfl (lv_at hl 2 rfl) ?_
  obtain ⟨q_1, hq_1, hM⟩ := on_bind hM
  refine on_callS0 (rest := [.int v1, .int v0]) (As := [.int v0, .int v1, .int v2]) (st1 := [.int q_1, .int v1, .int v0]) ⟨hx, hb, hml, hown, hts⟩ (k_X6_neighbours v0 v1 v2 q_1 hq_1) (va_cwS 3 hts gX6_alone_X6_neighbours rfl rfl rfl hdX6_neighbours ⟨(Nat.le_of_ble_eq_true rfl), (Nat.le_of_ble_eq_true rfl)⟩) hK hN hP hD hS hA rfl hl.1 rfl (Nat.le_of_ble_eq_true rfl) rfl dX6_alone_5 ⟨Nat.zero_le _, Nat.zero_le _⟩ (fun H locs hP hS => ?_)
  obtain ⟨q_2, hq_2, hM⟩ := on_bind hM
  refine on_callS0 (rest := []) (As := [.int v0, .int v1, .int q_1]) (st1 := [.int q_2]) ⟨hx, hb, hml, hown, hts⟩ (k_X6_switched v0 v1 q_1 q_2 hq_2) (va_cwS 3 hts gX6_alone_X6_switched rfl rfl rfl hdX6_switched ⟨(Nat.le_of_ble_eq_true rfl), (Nat.le_of_ble_eq_true rfl)⟩) hK hN hP hD hS hA rfl hl.1 rfl (Nat.le_of_ble_eq_true rfl) rfl dX6_alone_8 ⟨Nat.zero_le _, Nat.zero_le _⟩ (fun H locs hP hS => ?_)
  have hM := Option.some.inj hM
  subst hM
  rw [← hQ]
  exact on_iret hx hb hr hlk hP hD hS dX6_alone_11
abbrev rm_X6_isOdd : Room := { frames := 3, cells := 0, slots := 0, locals := 68 }
set_option maxHeartbeats 4000000 in
set_option maxRecDepth 100000 in
theorem k_X6_isOdd {l : Launch} {D : va_G} {cI cJ cZ cS cA : ClassId}   (v0 : Int32) (v1 : Int32) (v2 : Int32) (v3 : Int32) (v4 : Int32) (out : Int32) (hM : M_X6_isOdd v0 v1 v2 v3 v4 = some out) : on_Con l yX6_isOdd wsX6_isOdd rm_X6_isOdd [.int v0, .int v1, .int v2, .int v3, .int v4] D (on_T cI cJ cZ cS cA) [] (some (.int out)) [] := by
  unfold M_X6_isOdd at hM
  refine on_enter (cc := cX6_isOdd) (nL := 5) (rt := (some .boolean)) (own := RX6) (by decide +kernel) rfl rfl (Nat.le_of_ble_eq_true rfl) ?_
  intro p e s m below meth c A ls hx hb hml hr hlk hts hown hA hK hN H locs hP hD hS hl
  have hl : lv_has ls 5 [(0, .int v0), (1, .int v1), (2, .int v2), (3, .int v3), (4, .int v4)] := hl
  generalize hQ : MQ below (on_Q D (some (.int out)) [] A) _ s 0 0 A = Q
  generalize hAr : List.toArray ([.int v0, .int v1, .int v2, .int v3, .int v4] : List Value) = args at hts hQ ⊢
  refine lv_iload_n hx hb dX6_isOdd_0 rfl (lv_at hl 0 rfl) ?_
  refine lv_iload_n hx hb dX6_isOdd_1 rfl (lv_at hl 1 rfl) ?_
  refine lv_iload_n hx hb dX6_isOdd_2 rfl (lv_at hl 2 rfl) ?_
  refine lv_iload_n hx hb dX6_isOdd_3 rfl (lv_at hl 3 rfl) ?_
  obtain ⟨q_1, hq_1, hM⟩ := on_bind hM
  refine on_callS0 (rest := []) (As := [.int v0, .int v1, .int v2, .int v3]) (st1 := [.int q_1]) ⟨hx, hb, hml, hown, hts⟩ (k_X6_joined v0 v1 v2 v3 q_1 hq_1) (va_cwS 4 hts gX6_isOdd_X6_joined rfl rfl rfl hdX6_joined ⟨(Nat.le_of_ble_eq_true rfl), (Nat.le_of_ble_eq_true rfl)⟩) hK hN hP hD hS hA rfl hl.1 rfl (Nat.le_of_ble_eq_true rfl) rfl dX6_isOdd_4 ⟨Nat.zero_le _, Nat.zero_le _⟩ (fun H locs hP hS => ?_)
  refine lv_iload_n hx hb dX6_isOdd_7 rfl (lv_at hl 0 rfl) ?_
  refine lv_iload_n hx hb dX6_isOdd_8 rfl (lv_at hl 1 rfl) ?_
  refine lv_iload_n hx hb dX6_isOdd_9 rfl (lv_at hl 2 rfl) ?_
  refine lv_iload hx hb dX6_isOdd_10 (lv_at hl 4 rfl) ?_
  obtain ⟨q_2, hq_2, hM⟩ := on_bind hM
  refine on_callS0 (rest := [.int q_1]) (As := [.int v0, .int v1, .int v2, .int v4]) (st1 := [.int q_2, .int q_1]) ⟨hx, hb, hml, hown, hts⟩ (k_X6_joined v0 v1 v2 v4 q_2 hq_2) (va_cwS 4 hts gX6_isOdd_X6_joined rfl rfl rfl hdX6_joined ⟨(Nat.le_of_ble_eq_true rfl), (Nat.le_of_ble_eq_true rfl)⟩) hK hN hP hD hS hA rfl hl.1 rfl (Nat.le_of_ble_eq_true rfl) rfl dX6_isOdd_12 ⟨Nat.zero_le _, Nat.zero_le _⟩ (fun H locs hP hS => ?_)
  refine lv_iadd hx hb dX6_isOdd_15 ?_
  refine lv_iload_n hx hb dX6_isOdd_16 rfl (lv_at hl 0 rfl) ?_
  refine lv_iload_n hx hb dX6_isOdd_17 rfl (lv_at hl 1 rfl) ?_
  refine lv_iload_n hx hb dX6_isOdd_18 rfl (lv_at hl 3 rfl) ?_
  refine lv_iload hx hb dX6_isOdd_19 (lv_at hl 4 rfl) ?_
  obtain ⟨q_3, hq_3, hM⟩ := on_bind hM
  refine on_callS0 (rest := [.int (q_1 + q_2)]) (As := [.int v0, .int v1, .int v3, .int v4]) (st1 := [.int q_3, .int (q_1 + q_2)]) ⟨hx, hb, hml, hown, hts⟩ (k_X6_joined v0 v1 v3 v4 q_3 hq_3) (va_cwS 4 hts gX6_isOdd_X6_joined rfl rfl rfl hdX6_joined ⟨(Nat.le_of_ble_eq_true rfl), (Nat.le_of_ble_eq_true rfl)⟩) hK hN hP hD hS hA rfl hl.1 rfl (Nat.le_of_ble_eq_true rfl) rfl dX6_isOdd_21 ⟨Nat.zero_le _, Nat.zero_le _⟩ (fun H locs hP hS => ?_)
  refine lv_iadd hx hb dX6_isOdd_24 ?_
  refine lv_iconst (v := 2) hx hb dX6_isOdd_25 (by decide) ?_
  refine lv_irem hx hb dX6_isOdd_26 (by decide) ?_
  refine lv_iconst (v := 1) hx hb dX6_isOdd_27 (by decide) ?_
  refine lv_icmp_ne (tgt := 35) hx hb dX6_isOdd_28 (by decide) (fun c_4 => ?_) (fun c_4 => ?_)
  · have hM := on_neg c_4 hM
    refine lv_iconst (v := 0) hx hb dX6_isOdd_35 (by decide) ?_
    have hM := Option.some.inj hM
    subst hM
    rw [← hQ]
    exact on_zret hx hb hr hlk hP hD hS rfl dX6_isOdd_36
  · have hM := on_pos c_4 hM
    refine lv_iconst (v := 1) hx hb dX6_isOdd_31 (by decide) ?_
    refine lv_goto (tgt := 36) hx hb dX6_isOdd_32 (by decide) ?_
    have hM := Option.some.inj hM
    subst hM
    rw [← hQ]
    exact on_zret hx hb hr hlk hP hD hS rfl dX6_isOdd_36
abbrev rm_X6_oddOfPair : Room := { frames := 4, cells := 0, slots := 0, locals := 92 }
set_option maxHeartbeats 4000000 in
set_option maxRecDepth 100000 in
theorem k_X6_oddOfPair {l : Launch} {D : va_G} {cI cJ cZ cS cA : ClassId}   (v0 : Int32) (v1 : Int32) (v2 : Int32) (v3 : Int32) (out : Int32) (hM : M_X6_oddOfPair v0 v1 v2 v3 = some out) : on_Con l yX6_oddOfPair wsX6_oddOfPair rm_X6_oddOfPair [.int v0, .int v1, .int v2, .int v3] D (on_T cI cJ cZ cS cA) [] (some (.int out)) [] := by
  unfold M_X6_oddOfPair at hM
  refine on_enter (cc := cX6_oddOfPair) (nL := 6) (rt := (some .int)) (own := RX6) (by decide +kernel) rfl rfl (Nat.le_of_ble_eq_true rfl) ?_
  intro p e s m below meth c A ls hx hb hml hr hlk hts hown hA hK hN H locs hP hD hS hl
  have hl : lv_has ls 6 [(0, .int v0), (1, .int v1), (2, .int v2), (3, .int v3)] := hl
  generalize hQ : MQ below (on_Q D (some (.int out)) [] A) _ s 0 0 A = Q
  generalize hAr : List.toArray ([.int v0, .int v1, .int v2, .int v3] : List Value) = args at hts hQ ⊢
  have lp_6 : ∀ (v0 : Int32) (v1 : Int32) (v2 : Int32) (v3 : Int32), ∀ (n : Nat) (v4 : Int32) (v5 : Int32) (x : Int32), on_loop (fun (s : Int32 × Int32) => B_X6_oddOfPair_6 v0 v1 v2 v3 s.1 s.2) n (v4, v5) = some x → (∀ (H : Heap) (locs : List Loc), va_P D vwCl [] H → va_D A [] → va_S A s.heap H locs → ∀ ls : Array Slot, lv_has ls 6 [(4, .int x)] → W p l e rm_X6_oddOfPair s m args below meth c H locs 0 0 Q (F0 m 52 ls [])) → ∀ (H : Heap) (locs : List Loc), va_P D vwCl [] H → va_D A [] → va_S A s.heap H locs → ∀ ls : Array Slot, lv_has ls 6 [(0, .int v0), (1, .int v1), (2, .int v2), (3, .int v3), (4, .int v4), (5, .int v5)] → W p l e rm_X6_oddOfPair s m args below meth c H locs 0 0 Q (F0 m 6 ls []) := by
    intro v0 v1 v2 v3
    intro n
    induction n with
    | zero =>
      intro v4 v5 x hL
      exact (on_loop0 hL).elim
    | succ n ih =>
      intro v4 v5 x hL K1 H locs hP hD hS ls hl
      obtain ⟨y, hM, hk⟩ := on_loopE hL
      have hM : B_X6_oddOfPair_6 v0 v1 v2 v3 v4 v5 = some y := hM
      unfold B_X6_oddOfPair_6 at hM
      refine lv_iload hx hb dX6_oddOfPair_6 (lv_at hl 5 rfl) ?_
      refine lv_iload_n hx hb dX6_oddOfPair_8 rfl (lv_at hl 0 rfl) ?_
      refine lv_icmp_ge (tgt := 52) hx hb dX6_oddOfPair_9 (by decide) (fun c_1 => ?_) (fun c_1 => ?_)
      · have hM := on_pos c_1 hM
        have hk := on_nxR hM hk
        subst hk
        exact K1 _ _ hP hD hS ls (lv_sub hl [4] rfl)
      · have hM := on_neg c_1 hM
        refine lv_iload hx hb dX6_oddOfPair_12 (lv_at hl 4 rfl) ?_
        refine lv_iload hx hb dX6_oddOfPair_14 (lv_at hl 5 rfl) ?_
        refine lv_iload_n hx hb dX6_oddOfPair_16 rfl (lv_at hl 2 rfl) ?_
        refine lv_icmp_eq (tgt := 42) hx hb dX6_oddOfPair_17 (by decide) (fun c_2 => ?_) (fun c_2 => ?_)
        · have hM := on_pos c_2 hM
          refine lv_iconst (v := 0) hx hb dX6_oddOfPair_42 (by decide) ?_
          refine lv_iadd hx hb dX6_oddOfPair_43 ?_
          refine lv_topi (fun v4_3 ev4_3 => ?_)
          have hM := on_letE ev4_3 hM
          refine lv_istore (lv' := [(4, .int v4_3), (0, .int v0), (1, .int v1), (2, .int v2), (3, .int v3), (5, .int v5)]) hx hb dX6_oddOfPair_44 hl (by decide) rfl (fun ls hl => ?_)
          obtain ⟨v5_4, ev5_4⟩ : ∃ z : Int32, z = v5 + 1 := ⟨_, rfl⟩
          have hM := on_letE ev5_4 hM
          refine lv_iinc (v := v5_4) (lv' := [(5, .int v5_4), (4, .int v4_3), (0, .int v0), (1, .int v1), (2, .int v2), (3, .int v3)]) hx hb dX6_oddOfPair_46 hl (k := 5) rfl (by rw [ev5_4]; rfl) (by decide) rfl (fun ls hl => ?_)
          refine lv_goto (tgt := 6) hx hb dX6_oddOfPair_49 (by decide) ?_
          have hk := on_nxL hM hk
          exact ih v4_3 v5_4 _ hk K1 _ _ hP hD hS ls (lv_sub hl [2, 3, 4, 5, 1, 0] rfl)
        · have hM := on_neg c_2 hM
          refine lv_iload hx hb dX6_oddOfPair_20 (lv_at hl 5 rfl) ?_
          refine lv_iload_n hx hb dX6_oddOfPair_22 rfl (lv_at hl 3 rfl) ?_
          refine lv_icmp_eq (tgt := 42) hx hb dX6_oddOfPair_23 (by decide) (fun c_5 => ?_) (fun c_5 => ?_)
          · have hM := on_pos c_5 hM
            refine lv_iconst (v := 0) hx hb dX6_oddOfPair_42 (by decide) ?_
            refine lv_iadd hx hb dX6_oddOfPair_43 ?_
            refine lv_topi (fun v4_6 ev4_6 => ?_)
            have hM := on_letE ev4_6 hM
            refine lv_istore (lv' := [(4, .int v4_6), (0, .int v0), (1, .int v1), (2, .int v2), (3, .int v3), (5, .int v5)]) hx hb dX6_oddOfPair_44 hl (by decide) rfl (fun ls hl => ?_)
            obtain ⟨v5_7, ev5_7⟩ : ∃ z : Int32, z = v5 + 1 := ⟨_, rfl⟩
            have hM := on_letE ev5_7 hM
            refine lv_iinc (v := v5_7) (lv' := [(5, .int v5_7), (4, .int v4_6), (0, .int v0), (1, .int v1), (2, .int v2), (3, .int v3)]) hx hb dX6_oddOfPair_46 hl (k := 5) rfl (by rw [ev5_7]; rfl) (by decide) rfl (fun ls hl => ?_)
            refine lv_goto (tgt := 6) hx hb dX6_oddOfPair_49 (by decide) ?_
            have hk := on_nxL hM hk
            exact ih v4_6 v5_7 _ hk K1 _ _ hP hD hS ls (lv_sub hl [2, 3, 4, 5, 1, 0] rfl)
          · have hM := on_neg c_5 hM
            refine lv_iload_n hx hb dX6_oddOfPair_26 rfl (lv_at hl 0 rfl) ?_
            refine lv_iload_n hx hb dX6_oddOfPair_27 rfl (lv_at hl 1 rfl) ?_
            refine lv_iload_n hx hb dX6_oddOfPair_28 rfl (lv_at hl 2 rfl) ?_
            refine lv_iload_n hx hb dX6_oddOfPair_29 rfl (lv_at hl 3 rfl) ?_
            refine lv_iload hx hb dX6_oddOfPair_30 (lv_at hl 5 rfl) ?_
            obtain ⟨q_8, hq_8, hM⟩ := on_bind hM
            refine on_callS0 (rest := [.int v4]) (As := [.int v0, .int v1, .int v2, .int v3, .int v5]) (st1 := [.int q_8, .int v4]) ⟨hx, hb, hml, hown, hts⟩ (k_X6_isOdd v0 v1 v2 v3 v5 q_8 hq_8) (va_cwS 5 hts gX6_oddOfPair_X6_isOdd rfl rfl rfl hdX6_isOdd ⟨(Nat.le_of_ble_eq_true rfl), (Nat.le_of_ble_eq_true rfl)⟩) hK hN hP hD hS hA rfl hl.1 rfl (Nat.le_of_ble_eq_true rfl) rfl dX6_oddOfPair_32 ⟨Nat.zero_le _, Nat.zero_le _⟩ (fun H locs hP hS => ?_)
            refine lv_if_eq (tgt := 42) hx hb dX6_oddOfPair_35 (by decide) (fun c_9 => ?_) (fun c_9 => ?_)
            · have hM := on_pos c_9 hM
              refine lv_iconst (v := 0) hx hb dX6_oddOfPair_42 (by decide) ?_
              refine lv_iadd hx hb dX6_oddOfPair_43 ?_
              refine lv_topi (fun v4_10 ev4_10 => ?_)
              have hM := on_letE ev4_10 hM
              refine lv_istore (lv' := [(4, .int v4_10), (0, .int v0), (1, .int v1), (2, .int v2), (3, .int v3), (5, .int v5)]) hx hb dX6_oddOfPair_44 hl (by decide) rfl (fun ls hl => ?_)
              obtain ⟨v5_11, ev5_11⟩ : ∃ z : Int32, z = v5 + 1 := ⟨_, rfl⟩
              have hM := on_letE ev5_11 hM
              refine lv_iinc (v := v5_11) (lv' := [(5, .int v5_11), (4, .int v4_10), (0, .int v0), (1, .int v1), (2, .int v2), (3, .int v3)]) hx hb dX6_oddOfPair_46 hl (k := 5) rfl (by rw [ev5_11]; rfl) (by decide) rfl (fun ls hl => ?_)
              refine lv_goto (tgt := 6) hx hb dX6_oddOfPair_49 (by decide) ?_
              have hk := on_nxL hM hk
              exact ih v4_10 v5_11 _ hk K1 _ _ hP hD hS ls (lv_sub hl [2, 3, 4, 5, 1, 0] rfl)
            · have hM := on_neg c_9 hM
              refine lv_iconst (v := 1) hx hb dX6_oddOfPair_38 (by decide) ?_
              refine lv_goto (tgt := 43) hx hb dX6_oddOfPair_39 (by decide) ?_
              refine lv_iadd hx hb dX6_oddOfPair_43 ?_
              refine lv_topi (fun v4_12 ev4_12 => ?_)
              have hM := on_letE ev4_12 hM
              refine lv_istore (lv' := [(4, .int v4_12), (0, .int v0), (1, .int v1), (2, .int v2), (3, .int v3), (5, .int v5)]) hx hb dX6_oddOfPair_44 hl (by decide) rfl (fun ls hl => ?_)
              obtain ⟨v5_13, ev5_13⟩ : ∃ z : Int32, z = v5 + 1 := ⟨_, rfl⟩
              have hM := on_letE ev5_13 hM
              refine lv_iinc (v := v5_13) (lv' := [(5, .int v5_13), (4, .int v4_12), (0, .int v0), (1, .int v1), (2, .int v2), (3, .int v3)]) hx hb dX6_oddOfPair_46 hl (k := 5) rfl (by rw [ev5_13]; rfl) (by decide) rfl (fun ls hl => ?_)
              refine lv_goto (tgt := 6) hx hb dX6_oddOfPair_49 (by decide) ?_
              have hk := on_nxL hM hk
              exact ih v4_12 v5_13 _ hk K1 _ _ hP hD hS ls (lv_sub hl [2, 3, 4, 5, 1, 0] rfl)
  refine lv_iconst (v := 0) hx hb dX6_oddOfPair_0 (by decide) ?_
  refine lv_istore (lv' := [(4, .int (0 : Int32)), (0, .int v0), (1, .int v1), (2, .int v2), (3, .int v3)]) hx hb dX6_oddOfPair_1 hl (by decide) rfl (fun ls hl => ?_)
  refine lv_iconst (v := 0) hx hb dX6_oddOfPair_3 (by decide) ?_
  refine lv_istore (lv' := [(5, .int (0 : Int32)), (4, .int (0 : Int32)), (0, .int v0), (1, .int v1), (2, .int v2), (3, .int v3)]) hx hb dX6_oddOfPair_4 hl (by decide) rfl (fun ls hl => ?_)
  obtain ⟨q_14, hq_14, hM⟩ := on_bind hM
  refine lp_6 v0 v1 v2 v3 on_F (0 : Int32) (0 : Int32) q_14 hq_14 (fun H locs hP hD hS ls hl => ?_) H locs hP hD hS ls (lv_sub hl [2, 3, 4, 5, 1, 0] rfl)
  refine lv_iload hx hb dX6_oddOfPair_52 (lv_at hl 0 rfl) ?_
  have hM := Option.some.inj hM
  subst hM
  rw [← hQ]
  exact on_iret hx hb hr hlk hP hD hS dX6_oddOfPair_54
abbrev rm_X6_oddOfNode : Room := { frames := 5, cells := 0, slots := 0, locals := 117 }
set_option maxHeartbeats 4000000 in
set_option maxRecDepth 100000 in
theorem k_X6_oddOfNode {l : Launch} {D : va_G} {cI cJ cZ cS cA : ClassId}   (v0 : Int32) (v1 : Int32) (v2 : Int32) (out : Int32) (hM : M_X6_oddOfNode v0 v1 v2 = some out) : on_Con l yX6_oddOfNode wsX6_oddOfNode rm_X6_oddOfNode [.int v0, .int v1, .int v2] D (on_T cI cJ cZ cS cA) [] (some (.int out)) [] := by
  unfold M_X6_oddOfNode at hM
  refine on_enter (cc := cX6_oddOfNode) (nL := 5) (rt := (some .int)) (own := RX6) (by decide +kernel) rfl rfl (Nat.le_of_ble_eq_true rfl) ?_
  intro p e s m below meth c A ls hx hb hml hr hlk hts hown hA hK hN H locs hP hD hS hl
  have hl : lv_has ls 5 [(0, .int v0), (1, .int v1), (2, .int v2)] := hl
  generalize hQ : MQ below (on_Q D (some (.int out)) [] A) _ s 0 0 A = Q
  generalize hAr : List.toArray ([.int v0, .int v1, .int v2] : List Value) = args at hts hQ ⊢
  have lp_5 : ∀ (v0 : Int32) (v1 : Int32) (v2 : Int32), ∀ (n : Nat) (v3 : Int32) (v4 : Int32) (x : Int32), on_loop (fun (s : Int32 × Int32) => B_X6_oddOfNode_5 v0 v1 v2 s.1 s.2) n (v3, v4) = some x → (∀ (H : Heap) (locs : List Loc), va_P D vwCl [] H → va_D A [] → va_S A s.heap H locs → ∀ ls : Array Slot, lv_has ls 5 [(3, .int x)] → W p l e rm_X6_oddOfNode s m args below meth c H locs 0 0 Q (F0 m 38 ls [])) → ∀ (H : Heap) (locs : List Loc), va_P D vwCl [] H → va_D A [] → va_S A s.heap H locs → ∀ ls : Array Slot, lv_has ls 5 [(0, .int v0), (1, .int v1), (2, .int v2), (3, .int v3), (4, .int v4)] → W p l e rm_X6_oddOfNode s m args below meth c H locs 0 0 Q (F0 m 5 ls []) := by
    intro v0 v1 v2
    intro n
    induction n with
    | zero =>
      intro v3 v4 x hL
      exact (on_loop0 hL).elim
    | succ n ih =>
      intro v3 v4 x hL K1 H locs hP hD hS ls hl
      obtain ⟨y, hM, hk⟩ := on_loopE hL
      have hM : B_X6_oddOfNode_5 v0 v1 v2 v3 v4 = some y := hM
      unfold B_X6_oddOfNode_5 at hM
      refine lv_iload hx hb dX6_oddOfNode_5 (lv_at hl 4 rfl) ?_
      refine lv_iload_n hx hb dX6_oddOfNode_7 rfl (lv_at hl 0 rfl) ?_
      refine lv_icmp_ge (tgt := 38) hx hb dX6_oddOfNode_8 (by decide) (fun c_1 => ?_) (fun c_1 => ?_)
      · have hM := on_pos c_1 hM
        have hk := on_nxR hM hk
        subst hk
        exact K1 _ _ hP hD hS ls (lv_sub hl [3] rfl)
      · have hM := on_neg c_1 hM
        refine lv_iload_n hx hb dX6_oddOfNode_11 rfl (lv_at hl 3 rfl) ?_
        refine lv_iload hx hb dX6_oddOfNode_12 (lv_at hl 4 rfl) ?_
        refine lv_iload_n hx hb dX6_oddOfNode_14 rfl (lv_at hl 2 rfl) ?_
        refine lv_icmp_eq (tgt := 29) hx hb dX6_oddOfNode_15 (by decide) (fun c_2 => ?_) (fun c_2 => ?_)
        · have hM := on_pos c_2 hM
          refine lv_iconst (v := 0) hx hb dX6_oddOfNode_29 (by decide) ?_
          refine lv_iadd hx hb dX6_oddOfNode_30 ?_
          refine lv_topi (fun v3_3 ev3_3 => ?_)
          have hM := on_letE ev3_3 hM
          refine lv_istore_n (lv' := [(3, .int v3_3), (0, .int v0), (1, .int v1), (2, .int v2), (4, .int v4)]) hx hb dX6_oddOfNode_31 rfl hl (by decide) rfl (fun ls hl => ?_)
          obtain ⟨v4_4, ev4_4⟩ : ∃ z : Int32, z = v4 + 1 := ⟨_, rfl⟩
          have hM := on_letE ev4_4 hM
          refine lv_iinc (v := v4_4) (lv' := [(4, .int v4_4), (3, .int v3_3), (0, .int v0), (1, .int v1), (2, .int v2)]) hx hb dX6_oddOfNode_32 hl (k := 4) rfl (by rw [ev4_4]; rfl) (by decide) rfl (fun ls hl => ?_)
          refine lv_goto (tgt := 5) hx hb dX6_oddOfNode_35 (by decide) ?_
          have hk := on_nxL hM hk
          exact ih v3_3 v4_4 _ hk K1 _ _ hP hD hS ls (lv_sub hl [2, 3, 4, 1, 0] rfl)
        · have hM := on_neg c_2 hM
          refine lv_iload_n hx hb dX6_oddOfNode_18 rfl (lv_at hl 0 rfl) ?_
          refine lv_iload_n hx hb dX6_oddOfNode_19 rfl (lv_at hl 1 rfl) ?_
          refine lv_iload_n hx hb dX6_oddOfNode_20 rfl (lv_at hl 2 rfl) ?_
          refine lv_iload hx hb dX6_oddOfNode_21 (lv_at hl 4 rfl) ?_
          obtain ⟨q_5, hq_5, hM⟩ := on_bind hM
          refine on_callS0 (rest := [.int v3]) (As := [.int v0, .int v1, .int v2, .int v4]) (st1 := [.int q_5, .int v3]) ⟨hx, hb, hml, hown, hts⟩ (k_X6_oddOfPair v0 v1 v2 v4 q_5 hq_5) (va_cwS 4 hts gX6_oddOfNode_X6_oddOfPair rfl rfl rfl hdX6_oddOfPair ⟨(Nat.le_of_ble_eq_true rfl), (Nat.le_of_ble_eq_true rfl)⟩) hK hN hP hD hS hA rfl hl.1 rfl (Nat.le_of_ble_eq_true rfl) rfl dX6_oddOfNode_23 ⟨Nat.zero_le _, Nat.zero_le _⟩ (fun H locs hP hS => ?_)
          refine lv_goto (tgt := 30) hx hb dX6_oddOfNode_26 (by decide) ?_
          refine lv_iadd hx hb dX6_oddOfNode_30 ?_
          refine lv_topi (fun v3_6 ev3_6 => ?_)
          have hM := on_letE ev3_6 hM
          refine lv_istore_n (lv' := [(3, .int v3_6), (0, .int v0), (1, .int v1), (2, .int v2), (4, .int v4)]) hx hb dX6_oddOfNode_31 rfl hl (by decide) rfl (fun ls hl => ?_)
          obtain ⟨v4_7, ev4_7⟩ : ∃ z : Int32, z = v4 + 1 := ⟨_, rfl⟩
          have hM := on_letE ev4_7 hM
          refine lv_iinc (v := v4_7) (lv' := [(4, .int v4_7), (3, .int v3_6), (0, .int v0), (1, .int v1), (2, .int v2)]) hx hb dX6_oddOfNode_32 hl (k := 4) rfl (by rw [ev4_7]; rfl) (by decide) rfl (fun ls hl => ?_)
          refine lv_goto (tgt := 5) hx hb dX6_oddOfNode_35 (by decide) ?_
          have hk := on_nxL hM hk
          exact ih v3_6 v4_7 _ hk K1 _ _ hP hD hS ls (lv_sub hl [2, 3, 4, 1, 0] rfl)
  refine lv_iconst (v := 0) hx hb dX6_oddOfNode_0 (by decide) ?_
  refine lv_istore_n (lv' := [(3, .int (0 : Int32)), (0, .int v0), (1, .int v1), (2, .int v2)]) hx hb dX6_oddOfNode_1 rfl hl (by decide) rfl (fun ls hl => ?_)
  refine lv_iconst (v := 0) hx hb dX6_oddOfNode_2 (by decide) ?_
  refine lv_istore (lv' := [(4, .int (0 : Int32)), (3, .int (0 : Int32)), (0, .int v0), (1, .int v1), (2, .int v2)]) hx hb dX6_oddOfNode_3 hl (by decide) rfl (fun ls hl => ?_)
  obtain ⟨q_8, hq_8, hM⟩ := on_bind hM
  refine lp_5 v0 v1 v2 on_F (0 : Int32) (0 : Int32) q_8 hq_8 (fun H locs hP hD hS ls hl => ?_) H locs hP hD hS ls (lv_sub hl [2, 3, 4, 1, 0] rfl)
  refine lv_iload_n hx hb dX6_oddOfNode_38 rfl (lv_at hl 0 rfl) ?_
  refine lv_iconst (v := 2) hx hb dX6_oddOfNode_39 (by decide) ?_
  refine lv_idiv hx hb dX6_oddOfNode_40 (by decide) ?_
  have hM := Option.some.inj hM
  subst hM
  rw [← hQ]
  exact on_iret hx hb hr hlk hP hD hS dX6_oddOfNode_41
abbrev rm_X6_oddOfNet : Room := { frames := 6, cells := 0, slots := 0, locals := 141 }
set_option maxHeartbeats 4000000 in
set_option maxRecDepth 100000 in
theorem k_X6_oddOfNet {l : Launch} {D : va_G} {cI cJ cZ cS cA : ClassId}   (v0 : Int32) (v1 : Int32) (out : Int32) (hM : M_X6_oddOfNet v0 v1 = some out) : on_Con l yX6_oddOfNet wsX6_oddOfNet rm_X6_oddOfNet [.int v0, .int v1] D (on_T cI cJ cZ cS cA) [] (some (.int out)) [] := by
  unfold M_X6_oddOfNet at hM
  refine on_enter (cc := cX6_oddOfNet) (nL := 4) (rt := (some .int)) (own := RX6) (by decide +kernel) rfl rfl (Nat.le_of_ble_eq_true rfl) ?_
  intro p e s m below meth c A ls hx hb hml hr hlk hts hown hA hK hN H locs hP hD hS hl
  have hl : lv_has ls 4 [(0, .int v0), (1, .int v1)] := hl
  generalize hQ : MQ below (on_Q D (some (.int out)) [] A) _ s 0 0 A = Q
  generalize hAr : List.toArray ([.int v0, .int v1] : List Value) = args at hts hQ ⊢
  have lp_4 : ∀ (v0 : Int32) (v1 : Int32), ∀ (n : Nat) (v2 : Int32) (v3 : Int32) (x : Int32), on_loop (fun (s : Int32 × Int32) => B_X6_oddOfNet_4 v0 v1 s.1 s.2) n (v2, v3) = some x → (∀ (H : Heap) (locs : List Loc), va_P D vwCl [] H → va_D A [] → va_S A s.heap H locs → ∀ ls : Array Slot, lv_has ls 4 [(2, .int x)] → W p l e rm_X6_oddOfNet s m args below meth c H locs 0 0 Q (F0 m 24 ls [])) → ∀ (H : Heap) (locs : List Loc), va_P D vwCl [] H → va_D A [] → va_S A s.heap H locs → ∀ ls : Array Slot, lv_has ls 4 [(0, .int v0), (1, .int v1), (2, .int v2), (3, .int v3)] → W p l e rm_X6_oddOfNet s m args below meth c H locs 0 0 Q (F0 m 4 ls []) := by
    intro v0 v1
    intro n
    induction n with
    | zero =>
      intro v2 v3 x hL
      exact (on_loop0 hL).elim
    | succ n ih =>
      intro v2 v3 x hL K1 H locs hP hD hS ls hl
      obtain ⟨y, hM, hk⟩ := on_loopE hL
      have hM : B_X6_oddOfNet_4 v0 v1 v2 v3 = some y := hM
      unfold B_X6_oddOfNet_4 at hM
      refine lv_iload_n hx hb dX6_oddOfNet_4 rfl (lv_at hl 3 rfl) ?_
      refine lv_iload_n hx hb dX6_oddOfNet_5 rfl (lv_at hl 0 rfl) ?_
      refine lv_icmp_ge (tgt := 24) hx hb dX6_oddOfNet_6 (by decide) (fun c_1 => ?_) (fun c_1 => ?_)
      · have hM := on_pos c_1 hM
        have hk := on_nxR hM hk
        subst hk
        exact K1 _ _ hP hD hS ls (lv_sub hl [2] rfl)
      · have hM := on_neg c_1 hM
        refine lv_iload_n hx hb dX6_oddOfNet_9 rfl (lv_at hl 2 rfl) ?_
        refine lv_iload_n hx hb dX6_oddOfNet_10 rfl (lv_at hl 0 rfl) ?_
        refine lv_iload_n hx hb dX6_oddOfNet_11 rfl (lv_at hl 1 rfl) ?_
        refine lv_iload_n hx hb dX6_oddOfNet_12 rfl (lv_at hl 3 rfl) ?_
        obtain ⟨q_2, hq_2, hM⟩ := on_bind hM
        refine on_callS0 (rest := [.int v2]) (As := [.int v0, .int v1, .int v3]) (st1 := [.int q_2, .int v2]) ⟨hx, hb, hml, hown, hts⟩ (k_X6_oddOfNode v0 v1 v3 q_2 hq_2) (va_cwS 3 hts gX6_oddOfNet_X6_oddOfNode rfl rfl rfl hdX6_oddOfNode ⟨(Nat.le_of_ble_eq_true rfl), (Nat.le_of_ble_eq_true rfl)⟩) hK hN hP hD hS hA rfl hl.1 rfl (Nat.le_of_ble_eq_true rfl) rfl dX6_oddOfNet_13 ⟨Nat.zero_le _, Nat.zero_le _⟩ (fun H locs hP hS => ?_)
        refine lv_iadd hx hb dX6_oddOfNet_16 ?_
        refine lv_topi (fun v2_3 ev2_3 => ?_)
        have hM := on_letE ev2_3 hM
        refine lv_istore_n (lv' := [(2, .int v2_3), (0, .int v0), (1, .int v1), (3, .int v3)]) hx hb dX6_oddOfNet_17 rfl hl (by decide) rfl (fun ls hl => ?_)
        obtain ⟨v3_4, ev3_4⟩ : ∃ z : Int32, z = v3 + 1 := ⟨_, rfl⟩
        have hM := on_letE ev3_4 hM
        refine lv_iinc (v := v3_4) (lv' := [(3, .int v3_4), (2, .int v2_3), (0, .int v0), (1, .int v1)]) hx hb dX6_oddOfNet_18 hl (k := 3) rfl (by rw [ev3_4]; rfl) (by decide) rfl (fun ls hl => ?_)
        refine lv_goto (tgt := 4) hx hb dX6_oddOfNet_21 (by decide) ?_
        have hk := on_nxL hM hk
        exact ih v2_3 v3_4 _ hk K1 _ _ hP hD hS ls (lv_sub hl [2, 3, 1, 0] rfl)
  refine lv_iconst (v := 0) hx hb dX6_oddOfNet_0 (by decide) ?_
  refine lv_istore_n (lv' := [(2, .int (0 : Int32)), (0, .int v0), (1, .int v1)]) hx hb dX6_oddOfNet_1 rfl hl (by decide) rfl (fun ls hl => ?_)
  refine lv_iconst (v := 0) hx hb dX6_oddOfNet_2 (by decide) ?_
  refine lv_istore_n (lv' := [(3, .int (0 : Int32)), (2, .int (0 : Int32)), (0, .int v0), (1, .int v1)]) hx hb dX6_oddOfNet_3 rfl hl (by decide) rfl (fun ls hl => ?_)
  obtain ⟨q_5, hq_5, hM⟩ := on_bind hM
  refine lp_4 v0 v1 on_F (0 : Int32) (0 : Int32) q_5 hq_5 (fun H locs hP hD hS ls hl => ?_) H locs hP hD hS ls (lv_sub hl [2, 3, 1, 0] rfl)
  refine lv_iload_n hx hb dX6_oddOfNet_24 rfl (lv_at hl 0 rfl) ?_
  refine lv_iconst (v := 3) hx hb dX6_oddOfNet_25 (by decide) ?_
  refine lv_idiv hx hb dX6_oddOfNet_26 (by decide) ?_
  have hM := Option.some.inj hM
  subst hM
  rw [← hQ]
  exact on_iret hx hb hr hlk hP hD hS dX6_oddOfNet_27
abbrev rm_X6_without : Room := { frames := 3, cells := 0, slots := 0, locals := 68 }
set_option maxHeartbeats 4000000 in
set_option maxRecDepth 100000 in
theorem k_X6_without {l : Launch} {D : va_G} {cI cJ cZ cS cA : ClassId}   (v0 : Int32) (v1 : Int32) (v2 : Int32) (out : Int32) (hM : M_X6_without v0 v1 v2 = some out) : on_Con l yX6_without wsX6_without rm_X6_without [.int v0, .int v1, .int v2] D (on_T cI cJ cZ cS cA) [] (some (.int out)) [] := by
  unfold M_X6_without at hM
  refine on_enter (cc := cX6_without) (nL := 6) (rt := (some .int)) (own := RX6) (by decide +kernel) rfl rfl (Nat.le_of_ble_eq_true rfl) ?_
  intro p e s m below meth c A ls hx hb hml hr hlk hts hown hA hK hN H locs hP hD hS hl
  have hl : lv_has ls 6 [(0, .int v0), (1, .int v1), (2, .int v2)] := hl
  generalize hQ : MQ below (on_Q D (some (.int out)) [] A) _ s 0 0 A = Q
  generalize hAr : List.toArray ([.int v0, .int v1, .int v2] : List Value) = args at hts hQ ⊢
  have lp_17 : ∀ (v0 : Int32) (v1 : Int32) (v2 : Int32) (v4 : Int32), ∀ (n : Nat) (v3 : Int32) (v5 : Int32) (x : Int32), on_loop (fun (s : Int32 × Int32) => B_X6_without_17 v0 v1 v2 v4 s.1 s.2) n (v3, v5) = some x → (∀ (H : Heap) (locs : List Loc), va_P D vwCl [] H → va_D A [] → va_S A s.heap H locs → ∀ ls : Array Slot, lv_has ls 6 [(0, .int v0), (1, .int v1), (2, .int v2), (3, .int x), (4, .int v4)] → W p l e rm_X6_without s m args below meth c H locs 0 0 Q (F0 m 93 ls [])) → ∀ (H : Heap) (locs : List Loc), va_P D vwCl [] H → va_D A [] → va_S A s.heap H locs → ∀ ls : Array Slot, lv_has ls 6 [(0, .int v0), (1, .int v1), (2, .int v2), (3, .int v3), (4, .int v4), (5, .int v5)] → W p l e rm_X6_without s m args below meth c H locs 0 0 Q (F0 m 17 ls []) := by
    intro v0 v1 v2 v4
    intro n
    induction n with
    | zero =>
      intro v3 v5 x hL
      exact (on_loop0 hL).elim
    | succ n ih =>
      intro v3 v5 x hL K1 H locs hP hD hS ls hl
      obtain ⟨y, hM, hk⟩ := on_loopE hL
      have hM : B_X6_without_17 v0 v1 v2 v4 v3 v5 = some y := hM
      unfold B_X6_without_17 at hM
      refine lv_iload hx hb dX6_without_17 (lv_at hl 5 rfl) ?_
      refine lv_iload_n hx hb dX6_without_19 rfl (lv_at hl 0 rfl) ?_
      refine lv_icmp_ge (tgt := 93) hx hb dX6_without_20 (by decide) (fun c_3 => ?_) (fun c_3 => ?_)
      · have hM := on_pos c_3 hM
        have hk := on_nxR hM hk
        subst hk
        exact K1 _ _ hP hD hS ls (lv_sub hl [0, 1, 2, 3, 4] rfl)
      · have hM := on_neg c_3 hM
        refine lv_iload hx hb dX6_without_23 (lv_at hl 4 rfl) ?_
        refine lv_iload_n hx hb dX6_without_25 rfl (lv_at hl 2 rfl) ?_
        refine lv_icmp_eq (tgt := 87) hx hb dX6_without_26 (by decide) (fun c_4 => ?_) (fun c_4 => ?_)
        · have hM := on_pos c_4 hM
          obtain ⟨v5_5, ev5_5⟩ : ∃ z : Int32, z = v5 + 1 := ⟨_, rfl⟩
          have hM := on_letE ev5_5 hM
          refine lv_iinc (v := v5_5) (lv' := [(5, .int v5_5), (0, .int v0), (1, .int v1), (2, .int v2), (3, .int v3), (4, .int v4)]) hx hb dX6_without_87 hl (k := 5) rfl (by rw [ev5_5]; rfl) (by decide) rfl (fun ls hl => ?_)
          refine lv_goto (tgt := 17) hx hb dX6_without_90 (by decide) ?_
          have hk := on_nxL hM hk
          exact ih v3 v5_5 _ hk K1 _ _ hP hD hS ls (lv_sub hl [1, 2, 3, 4, 5, 0] rfl)
        · have hM := on_neg c_4 hM
          refine lv_iload hx hb dX6_without_29 (lv_at hl 5 rfl) ?_
          refine lv_iload_n hx hb dX6_without_31 rfl (lv_at hl 2 rfl) ?_
          refine lv_icmp_eq (tgt := 87) hx hb dX6_without_32 (by decide) (fun c_6 => ?_) (fun c_6 => ?_)
          · have hM := on_pos c_6 hM
            obtain ⟨v5_7, ev5_7⟩ : ∃ z : Int32, z = v5 + 1 := ⟨_, rfl⟩
            have hM := on_letE ev5_7 hM
            refine lv_iinc (v := v5_7) (lv' := [(5, .int v5_7), (0, .int v0), (1, .int v1), (2, .int v2), (3, .int v3), (4, .int v4)]) hx hb dX6_without_87 hl (k := 5) rfl (by rw [ev5_7]; rfl) (by decide) rfl (fun ls hl => ?_)
            refine lv_goto (tgt := 17) hx hb dX6_without_90 (by decide) ?_
            have hk := on_nxL hM hk
            exact ih v3 v5_7 _ hk K1 _ _ hP hD hS ls (lv_sub hl [1, 2, 3, 4, 5, 0] rfl)
          · have hM := on_neg c_6 hM
            refine lv_iload_n hx hb dX6_without_35 rfl (lv_at hl 0 rfl) ?_
            refine lv_iload_n hx hb dX6_without_36 rfl (lv_at hl 1 rfl) ?_
            refine lv_iload hx hb dX6_without_37 (lv_at hl 4 rfl) ?_
            refine lv_iload hx hb dX6_without_39 (lv_at hl 5 rfl) ?_
            obtain ⟨q_8, hq_8, hM⟩ := on_bind hM
            refine on_callS0 (rest := []) (As := [.int v0, .int v1, .int v4, .int v5]) (st1 := [.int q_8]) ⟨hx, hb, hml, hown, hts⟩ (k_X6_joined v0 v1 v4 v5 q_8 hq_8) (va_cwS 4 hts gX6_without_X6_joined rfl rfl rfl hdX6_joined ⟨(Nat.le_of_ble_eq_true rfl), (Nat.le_of_ble_eq_true rfl)⟩) hK hN hP hD hS hA rfl hl.1 rfl (Nat.le_of_ble_eq_true rfl) rfl dX6_without_41 ⟨Nat.zero_le _, Nat.zero_le _⟩ (fun H locs hP hS => ?_)
            refine lv_iconst (v := 1) hx hb dX6_without_44 (by decide) ?_
            refine lv_icmp_ne (tgt := 87) hx hb dX6_without_45 (by decide) (fun c_9 => ?_) (fun c_9 => ?_)
            · have hM := on_neg c_9 hM
              obtain ⟨v5_10, ev5_10⟩ : ∃ z : Int32, z = v5 + 1 := ⟨_, rfl⟩
              have hM := on_letE ev5_10 hM
              refine lv_iinc (v := v5_10) (lv' := [(5, .int v5_10), (0, .int v0), (1, .int v1), (2, .int v2), (3, .int v3), (4, .int v4)]) hx hb dX6_without_87 hl (k := 5) rfl (by rw [ev5_10]; rfl) (by decide) rfl (fun ls hl => ?_)
              refine lv_goto (tgt := 17) hx hb dX6_without_90 (by decide) ?_
              have hk := on_nxL hM hk
              exact ih v3 v5_10 _ hk K1 _ _ hP hD hS ls (lv_sub hl [1, 2, 3, 4, 5, 0] rfl)
            · have hM := on_pos c_9 hM
              refine lv_iload_n hx hb dX6_without_48 rfl (lv_at hl 3 rfl) ?_
              refine lv_iload_n hx hb dX6_without_49 rfl (lv_at hl 0 rfl) ?_
              refine lv_iconst (v := 1) hx hb dX6_without_50 (by decide) ?_
              refine lv_isub hx hb dX6_without_51 ?_
              refine lv_iload hx hb dX6_without_52 (lv_at hl 4 rfl) ?_
              refine lv_iload_n hx hb dX6_without_54 rfl (lv_at hl 2 rfl) ?_
              refine lv_icmp_le (tgt := 65) hx hb dX6_without_55 (by decide) (fun c_11 => ?_) (fun c_11 => ?_)
              · have hM := on_pos c_11 hM
                refine lv_iload hx hb dX6_without_65 (lv_at hl 4 rfl) ?_
                refine lv_iload hx hb dX6_without_67 (lv_at hl 5 rfl) ?_
                refine lv_iload_n hx hb dX6_without_69 rfl (lv_at hl 2 rfl) ?_
                refine lv_icmp_le (tgt := 80) hx hb dX6_without_70 (by decide) (fun c_12 => ?_) (fun c_12 => ?_)
                · have hM := on_pos c_12 hM
                  refine lv_iload hx hb dX6_without_80 (lv_at hl 5 rfl) ?_
                  obtain ⟨q_13, hq_13, hM⟩ := on_bind hM
                  refine on_callS0 (rest := [.int v3]) (As := [.int (v0 - (1 : Int32)), .int v4, .int v5]) (st1 := [.int q_13, .int v3]) ⟨hx, hb, hml, hown, hts⟩ (k_X6_valueOf (v0 - (1 : Int32)) v4 v5 q_13 hq_13) (va_cwS 3 hts gX6_without_X6_valueOf rfl rfl rfl hdX6_valueOf ⟨(Nat.le_of_ble_eq_true rfl), (Nat.le_of_ble_eq_true rfl)⟩) hK hN hP hD hS hA rfl hl.1 rfl (Nat.le_of_ble_eq_true rfl) rfl dX6_without_82 ⟨Nat.zero_le _, Nat.zero_le _⟩ (fun H locs hP hS => ?_)
                  refine lv_ior hx hb dX6_without_85 ?_
                  refine lv_topi (fun v3_14 ev3_14 => ?_)
                  have hM := on_letE ev3_14 hM
                  refine lv_istore_n (lv' := [(3, .int v3_14), (0, .int v0), (1, .int v1), (2, .int v2), (4, .int v4), (5, .int v5)]) hx hb dX6_without_86 rfl hl (by decide) rfl (fun ls hl => ?_)
                  obtain ⟨v5_15, ev5_15⟩ : ∃ z : Int32, z = v5 + 1 := ⟨_, rfl⟩
                  have hM := on_letE ev5_15 hM
                  refine lv_iinc (v := v5_15) (lv' := [(5, .int v5_15), (3, .int v3_14), (0, .int v0), (1, .int v1), (2, .int v2), (4, .int v4)]) hx hb dX6_without_87 hl (k := 5) rfl (by rw [ev5_15]; rfl) (by decide) rfl (fun ls hl => ?_)
                  refine lv_goto (tgt := 17) hx hb dX6_without_90 (by decide) ?_
                  have hk := on_nxL hM hk
                  exact ih v3_14 v5_15 _ hk K1 _ _ hP hD hS ls (lv_sub hl [2, 3, 4, 1, 5, 0] rfl)
                · have hM := on_neg c_12 hM
                  refine lv_iload hx hb dX6_without_73 (lv_at hl 5 rfl) ?_
                  refine lv_iconst (v := 1) hx hb dX6_without_75 (by decide) ?_
                  refine lv_isub hx hb dX6_without_76 ?_
                  refine lv_goto (tgt := 82) hx hb dX6_without_77 (by decide) ?_
                  obtain ⟨q_16, hq_16, hM⟩ := on_bind hM
                  refine on_callS0 (rest := [.int v3]) (As := [.int (v0 - (1 : Int32)), .int v4, .int (v5 - (1 : Int32))]) (st1 := [.int q_16, .int v3]) ⟨hx, hb, hml, hown, hts⟩ (k_X6_valueOf (v0 - (1 : Int32)) v4 (v5 - (1 : Int32)) q_16 hq_16) (va_cwS 3 hts gX6_without_X6_valueOf rfl rfl rfl hdX6_valueOf ⟨(Nat.le_of_ble_eq_true rfl), (Nat.le_of_ble_eq_true rfl)⟩) hK hN hP hD hS hA rfl hl.1 rfl (Nat.le_of_ble_eq_true rfl) rfl dX6_without_82 ⟨Nat.zero_le _, Nat.zero_le _⟩ (fun H locs hP hS => ?_)
                  refine lv_ior hx hb dX6_without_85 ?_
                  refine lv_topi (fun v3_17 ev3_17 => ?_)
                  have hM := on_letE ev3_17 hM
                  refine lv_istore_n (lv' := [(3, .int v3_17), (0, .int v0), (1, .int v1), (2, .int v2), (4, .int v4), (5, .int v5)]) hx hb dX6_without_86 rfl hl (by decide) rfl (fun ls hl => ?_)
                  obtain ⟨v5_18, ev5_18⟩ : ∃ z : Int32, z = v5 + 1 := ⟨_, rfl⟩
                  have hM := on_letE ev5_18 hM
                  refine lv_iinc (v := v5_18) (lv' := [(5, .int v5_18), (3, .int v3_17), (0, .int v0), (1, .int v1), (2, .int v2), (4, .int v4)]) hx hb dX6_without_87 hl (k := 5) rfl (by rw [ev5_18]; rfl) (by decide) rfl (fun ls hl => ?_)
                  refine lv_goto (tgt := 17) hx hb dX6_without_90 (by decide) ?_
                  have hk := on_nxL hM hk
                  exact ih v3_17 v5_18 _ hk K1 _ _ hP hD hS ls (lv_sub hl [2, 3, 4, 1, 5, 0] rfl)
              · have hM := on_neg c_11 hM
                refine lv_iload hx hb dX6_without_58 (lv_at hl 4 rfl) ?_
                refine lv_iconst (v := 1) hx hb dX6_without_60 (by decide) ?_
                refine lv_isub hx hb dX6_without_61 ?_
                refine lv_goto (tgt := 67) hx hb dX6_without_62 (by decide) ?_
                refine lv_iload hx hb dX6_without_67 (lv_at hl 5 rfl) ?_
                refine lv_iload_n hx hb dX6_without_69 rfl (lv_at hl 2 rfl) ?_
                refine lv_icmp_le (tgt := 80) hx hb dX6_without_70 (by decide) (fun c_19 => ?_) (fun c_19 => ?_)
                · have hM := on_pos c_19 hM
                  refine lv_iload hx hb dX6_without_80 (lv_at hl 5 rfl) ?_
                  obtain ⟨q_20, hq_20, hM⟩ := on_bind hM
                  refine on_callS0 (rest := [.int v3]) (As := [.int (v0 - (1 : Int32)), .int (v4 - (1 : Int32)), .int v5]) (st1 := [.int q_20, .int v3]) ⟨hx, hb, hml, hown, hts⟩ (k_X6_valueOf (v0 - (1 : Int32)) (v4 - (1 : Int32)) v5 q_20 hq_20) (va_cwS 3 hts gX6_without_X6_valueOf rfl rfl rfl hdX6_valueOf ⟨(Nat.le_of_ble_eq_true rfl), (Nat.le_of_ble_eq_true rfl)⟩) hK hN hP hD hS hA rfl hl.1 rfl (Nat.le_of_ble_eq_true rfl) rfl dX6_without_82 ⟨Nat.zero_le _, Nat.zero_le _⟩ (fun H locs hP hS => ?_)
                  refine lv_ior hx hb dX6_without_85 ?_
                  refine lv_topi (fun v3_21 ev3_21 => ?_)
                  have hM := on_letE ev3_21 hM
                  refine lv_istore_n (lv' := [(3, .int v3_21), (0, .int v0), (1, .int v1), (2, .int v2), (4, .int v4), (5, .int v5)]) hx hb dX6_without_86 rfl hl (by decide) rfl (fun ls hl => ?_)
                  obtain ⟨v5_22, ev5_22⟩ : ∃ z : Int32, z = v5 + 1 := ⟨_, rfl⟩
                  have hM := on_letE ev5_22 hM
                  refine lv_iinc (v := v5_22) (lv' := [(5, .int v5_22), (3, .int v3_21), (0, .int v0), (1, .int v1), (2, .int v2), (4, .int v4)]) hx hb dX6_without_87 hl (k := 5) rfl (by rw [ev5_22]; rfl) (by decide) rfl (fun ls hl => ?_)
                  refine lv_goto (tgt := 17) hx hb dX6_without_90 (by decide) ?_
                  have hk := on_nxL hM hk
                  exact ih v3_21 v5_22 _ hk K1 _ _ hP hD hS ls (lv_sub hl [2, 3, 4, 1, 5, 0] rfl)
                · have hM := on_neg c_19 hM
                  refine lv_iload hx hb dX6_without_73 (lv_at hl 5 rfl) ?_
                  refine lv_iconst (v := 1) hx hb dX6_without_75 (by decide) ?_
                  refine lv_isub hx hb dX6_without_76 ?_
                  refine lv_goto (tgt := 82) hx hb dX6_without_77 (by decide) ?_
                  obtain ⟨q_23, hq_23, hM⟩ := on_bind hM
                  refine on_callS0 (rest := [.int v3]) (As := [.int (v0 - (1 : Int32)), .int (v4 - (1 : Int32)), .int (v5 - (1 : Int32))]) (st1 := [.int q_23, .int v3]) ⟨hx, hb, hml, hown, hts⟩ (k_X6_valueOf (v0 - (1 : Int32)) (v4 - (1 : Int32)) (v5 - (1 : Int32)) q_23 hq_23) (va_cwS 3 hts gX6_without_X6_valueOf rfl rfl rfl hdX6_valueOf ⟨(Nat.le_of_ble_eq_true rfl), (Nat.le_of_ble_eq_true rfl)⟩) hK hN hP hD hS hA rfl hl.1 rfl (Nat.le_of_ble_eq_true rfl) rfl dX6_without_82 ⟨Nat.zero_le _, Nat.zero_le _⟩ (fun H locs hP hS => ?_)
                  refine lv_ior hx hb dX6_without_85 ?_
                  refine lv_topi (fun v3_24 ev3_24 => ?_)
                  have hM := on_letE ev3_24 hM
                  refine lv_istore_n (lv' := [(3, .int v3_24), (0, .int v0), (1, .int v1), (2, .int v2), (4, .int v4), (5, .int v5)]) hx hb dX6_without_86 rfl hl (by decide) rfl (fun ls hl => ?_)
                  obtain ⟨v5_25, ev5_25⟩ : ∃ z : Int32, z = v5 + 1 := ⟨_, rfl⟩
                  have hM := on_letE ev5_25 hM
                  refine lv_iinc (v := v5_25) (lv' := [(5, .int v5_25), (3, .int v3_24), (0, .int v0), (1, .int v1), (2, .int v2), (4, .int v4)]) hx hb dX6_without_87 hl (k := 5) rfl (by rw [ev5_25]; rfl) (by decide) rfl (fun ls hl => ?_)
                  refine lv_goto (tgt := 17) hx hb dX6_without_90 (by decide) ?_
                  have hk := on_nxL hM hk
                  exact ih v3_24 v5_25 _ hk K1 _ _ hP hD hS ls (lv_sub hl [2, 3, 4, 1, 5, 0] rfl)
  have lp_5 : ∀ (v0 : Int32) (v1 : Int32) (v2 : Int32), ∀ (n : Nat) (v3 : Int32) (v4 : Int32) (x : Int32), on_loop (fun (s : Int32 × Int32) => B_X6_without_5 v0 v1 v2 s.1 s.2) n (v3, v4) = some x → (∀ (H : Heap) (locs : List Loc), va_P D vwCl [] H → va_D A [] → va_S A s.heap H locs → ∀ ls : Array Slot, lv_has ls 6 [(3, .int x)] → W p l e rm_X6_without s m args below meth c H locs 0 0 Q (F0 m 99 ls [])) → ∀ (H : Heap) (locs : List Loc), va_P D vwCl [] H → va_D A [] → va_S A s.heap H locs → ∀ ls : Array Slot, lv_has ls 6 [(0, .int v0), (1, .int v1), (2, .int v2), (3, .int v3), (4, .int v4)] → W p l e rm_X6_without s m args below meth c H locs 0 0 Q (F0 m 5 ls []) := by
    intro v0 v1 v2
    intro n
    induction n with
    | zero =>
      intro v3 v4 x hL
      exact (on_loop0 hL).elim
    | succ n ih =>
      intro v3 v4 x hL K1 H locs hP hD hS ls hl
      obtain ⟨y, hM, hk⟩ := on_loopE hL
      have hM : B_X6_without_5 v0 v1 v2 v3 v4 = some y := hM
      unfold B_X6_without_5 at hM
      refine lv_iload hx hb dX6_without_5 (lv_at hl 4 rfl) ?_
      refine lv_iload_n hx hb dX6_without_7 rfl (lv_at hl 0 rfl) ?_
      refine lv_icmp_ge (tgt := 99) hx hb dX6_without_8 (by decide) (fun c_1 => ?_) (fun c_1 => ?_)
      · have hM := on_pos c_1 hM
        have hk := on_nxR hM hk
        subst hk
        exact K1 _ _ hP hD hS ls (lv_sub hl [3] rfl)
      · have hM := on_neg c_1 hM
        refine lv_iload hx hb dX6_without_11 (lv_at hl 4 rfl) ?_
        refine lv_iconst (v := 1) hx hb dX6_without_13 (by decide) ?_
        refine lv_iadd hx hb dX6_without_14 ?_
        refine lv_topi (fun v5_2 ev5_2 => ?_)
        have hM := on_letE ev5_2 hM
        refine lv_istore (lv' := [(5, .int v5_2), (0, .int v0), (1, .int v1), (2, .int v2), (3, .int v3), (4, .int v4)]) hx hb dX6_without_15 hl (by decide) rfl (fun ls hl => ?_)
        obtain ⟨q_26, hq_26, hM⟩ := on_bind hM
        refine lp_17 v0 v1 v2 v4 on_F v3 v5_2 q_26 hq_26 (fun H locs hP hD hS ls hl => ?_) H locs hP hD hS ls (lv_sub hl [1, 2, 3, 4, 5, 0] rfl)
        obtain ⟨v4_27, ev4_27⟩ : ∃ z : Int32, z = v4 + 1 := ⟨_, rfl⟩
        have hM := on_letE ev4_27 hM
        refine lv_iinc (v := v4_27) (lv' := [(4, .int v4_27), (0, .int v0), (1, .int v1), (2, .int v2), (3, .int q_26)]) hx hb dX6_without_93 hl (k := 4) rfl (by rw [ev4_27]; rfl) (by decide) rfl (fun ls hl => ?_)
        refine lv_goto (tgt := 5) hx hb dX6_without_96 (by decide) ?_
        have hk := on_nxL hM hk
        exact ih q_26 v4_27 _ hk K1 _ _ hP hD hS ls (lv_sub hl [1, 2, 3, 4, 0] rfl)
  refine lv_iconst (v := 0) hx hb dX6_without_0 (by decide) ?_
  refine lv_istore_n (lv' := [(3, .int (0 : Int32)), (0, .int v0), (1, .int v1), (2, .int v2)]) hx hb dX6_without_1 rfl hl (by decide) rfl (fun ls hl => ?_)
  refine lv_iconst (v := 0) hx hb dX6_without_2 (by decide) ?_
  refine lv_istore (lv' := [(4, .int (0 : Int32)), (3, .int (0 : Int32)), (0, .int v0), (1, .int v1), (2, .int v2)]) hx hb dX6_without_3 hl (by decide) rfl (fun ls hl => ?_)
  obtain ⟨q_28, hq_28, hM⟩ := on_bind hM
  refine lp_5 v0 v1 v2 on_F (0 : Int32) (0 : Int32) q_28 hq_28 (fun H locs hP hD hS ls hl => ?_) H locs hP hD hS ls (lv_sub hl [2, 3, 4, 1, 0] rfl)
  refine lv_iload_n hx hb dX6_without_99 rfl (lv_at hl 0 rfl) ?_
  have hM := Option.some.inj hM
  subst hM
  rw [← hQ]
  exact on_iret hx hb hr hlk hP hD hS dX6_without_100
abbrev rm_X6_netOf : Room := { frames := 0, cells := 0, slots := 0, locals := 0 }
set_option maxHeartbeats 4000000 in
set_option maxRecDepth 100000 in
theorem k_X6_netOf {l : Launch} {D : va_G} {cI cJ cZ cS cA : ClassId} (h_t : Nat) (h_t_state : Nat) (h_t_images : Nat) (h_t_isKept : Nat) (h_t_pad : Nat) (h_t_row : Nat) (h_t_isUsed : Nat) (h_t_table : Nat) (t_said : Int32) (t_leastSize : Int32) (t_leastSet : Int32) (t_found : Int32) (t_rank : Int32) (t_determinant : Int64) (t_state : Nat → Int32) (v1 : Int32) (out : Int32) (hM : M_X6_netOf v1 t_state = some out) : on_Con l yX6_netOf wsX6_netOf rm_X6_netOf [.ref h_t, .int v1] D (on_T cI cJ cZ cS cA) [(h_t, .inr (6, [.ref h_t_state, .ref h_t_images, .ref h_t_isKept, .ref h_t_pad, .int t_said, .int t_leastSize, .int t_leastSet, .int t_found, .ref h_t_row, .ref h_t_isUsed, .ref h_t_table, .int t_rank, .long t_determinant])), (h_t_state, .inl (cI, 4, .inl t_state))] (some (.int out)) [(h_t, .inr (6, [.ref h_t_state, .ref h_t_images, .ref h_t_isKept, .ref h_t_pad, .int t_said, .int t_leastSize, .int t_leastSet, .int t_found, .ref h_t_row, .ref h_t_isUsed, .ref h_t_table, .int t_rank, .long t_determinant])), (h_t_state, .inl (cI, 4, .inl t_state))] := by
  unfold M_X6_netOf at hM
  refine on_enter (cc := cX6_netOf) (nL := 2) (rt := (some .int)) (own := RX6) (by decide +kernel) rfl rfl (Nat.le_of_ble_eq_true rfl) ?_
  intro p e s m below meth c A ls hx hb hml hr hlk hts hown hA hK hN H locs hP hD hS hl
  have hl : lv_has ls 2 [(0, .ref h_t), (1, .int v1)] := hl
  generalize hQ : MQ below (on_Q D (some (.int out)) [(h_t, .inr (6, [.ref h_t_state, .ref h_t_images, .ref h_t_isKept, .ref h_t_pad, .int t_said, .int t_leastSize, .int t_leastSet, .int t_found, .ref h_t_row, .ref h_t_isUsed, .ref h_t_table, .int t_rank, .long t_determinant])), (h_t_state, .inl (cI, 4, .inl t_state))] A) _ s 0 0 A = Q
  generalize hAr : List.toArray ([.ref h_t, .int v1] : List Value) = args at hts hQ ⊢
  have w1 := hts (.fieldLink RX6 7 "OddNetsModel" "state" "[I") (by decide +kernel)
  have w2 : ∀ w ∈ wsX60, w ∈ wsX6_netOf := by decide +kernel
  refine lv_aload_n hx hb dX6_netOf_0 rfl (lv_at hl 0 rfl) ?_
  refine va_get (D := D) (ci := 6) (v := .ref h_t_state) (C := RX6) (T := TX6) (N := 13) hx hb hts w2 hown hK hP 0 rfl rfl 0 (by decide) w1 (fun _ h9 => h9) rfl dX6_netOf_1 ?_
  refine lv_iconst (v := 1) hx hb dX6_netOf_4 (by decide) ?_
  refine lv_iload_n hx hb dX6_netOf_5 rfl (lv_at hl 1 rfl) ?_
  refine lv_iadd hx hb dX6_netOf_6 ?_
  obtain ⟨g_1, hM⟩ := on_gdE hM
  refine va_iald hx hb hK hP 1 0 rfl rfl (on_ixE g_1) dX6_netOf_7 ?_
  have hM := Option.some.inj hM
  subst hM
  rw [← hQ]
  exact on_iret hx hb hr hlk hP hD hS dX6_netOf_8
abbrev rm_X6_many : Room := { frames := 0, cells := 0, slots := 0, locals := 0 }
set_option maxHeartbeats 4000000 in
set_option maxRecDepth 100000 in
theorem k_X6_many {l : Launch} {D : va_G} {cI cJ cZ cS cA : ClassId} (h_t : Nat) (h_t_state : Nat) (h_t_images : Nat) (h_t_isKept : Nat) (h_t_pad : Nat) (h_t_row : Nat) (h_t_isUsed : Nat) (h_t_table : Nat) (t_said : Int32) (t_leastSize : Int32) (t_leastSet : Int32) (t_found : Int32) (t_rank : Int32) (t_determinant : Int64) (t_state : Nat → Int32)  (out : Int32) (hM : M_X6_many t_state = some out) : on_Con l yX6_many wsX6_many rm_X6_many [.ref h_t] D (on_T cI cJ cZ cS cA) [(h_t, .inr (6, [.ref h_t_state, .ref h_t_images, .ref h_t_isKept, .ref h_t_pad, .int t_said, .int t_leastSize, .int t_leastSet, .int t_found, .ref h_t_row, .ref h_t_isUsed, .ref h_t_table, .int t_rank, .long t_determinant])), (h_t_state, .inl (cI, 4, .inl t_state))] (some (.int out)) [(h_t, .inr (6, [.ref h_t_state, .ref h_t_images, .ref h_t_isKept, .ref h_t_pad, .int t_said, .int t_leastSize, .int t_leastSet, .int t_found, .ref h_t_row, .ref h_t_isUsed, .ref h_t_table, .int t_rank, .long t_determinant])), (h_t_state, .inl (cI, 4, .inl t_state))] := by
  unfold M_X6_many at hM
  refine on_enter (cc := cX6_many) (nL := 1) (rt := (some .int)) (own := RX6) (by decide +kernel) rfl rfl (Nat.le_of_ble_eq_true rfl) ?_
  intro p e s m below meth c A ls hx hb hml hr hlk hts hown hA hK hN H locs hP hD hS hl
  have hl : lv_has ls 1 [(0, .ref h_t)] := hl
  generalize hQ : MQ below (on_Q D (some (.int out)) [(h_t, .inr (6, [.ref h_t_state, .ref h_t_images, .ref h_t_isKept, .ref h_t_pad, .int t_said, .int t_leastSize, .int t_leastSet, .int t_found, .ref h_t_row, .ref h_t_isUsed, .ref h_t_table, .int t_rank, .long t_determinant])), (h_t_state, .inl (cI, 4, .inl t_state))] A) _ s 0 0 A = Q
  generalize hAr : List.toArray ([.ref h_t] : List Value) = args at hts hQ ⊢
  have w1 := hts (.fieldLink RX6 7 "OddNetsModel" "state" "[I") (by decide +kernel)
  have w2 : ∀ w ∈ wsX60, w ∈ wsX6_many := by decide +kernel
  refine lv_aload_n hx hb dX6_many_0 rfl (lv_at hl 0 rfl) ?_
  refine va_get (D := D) (ci := 6) (v := .ref h_t_state) (C := RX6) (T := TX6) (N := 13) hx hb hts w2 hown hK hP 0 rfl rfl 0 (by decide) w1 (fun _ h9 => h9) rfl dX6_many_1 ?_
  refine lv_iconst (v := 0) hx hb dX6_many_4 (by decide) ?_
  obtain ⟨g_1, hM⟩ := on_gdE hM
  refine va_iald hx hb hK hP 1 0 rfl rfl (on_ixE g_1) dX6_many_5 ?_
  have hM := Option.some.inj hM
  subst hM
  rw [← hQ]
  exact on_iret hx hb hr hlk hP hD hS dX6_many_6
abbrev rm_X6_nodes : Room := { frames := 1, cells := 0, slots := 0, locals := 22 }
set_option maxHeartbeats 4000000 in
set_option maxRecDepth 100000 in
theorem k_X6_nodes {l : Launch} {D : va_G} {cI cJ cZ cS cA : ClassId} (h_t : Nat) (h_t_state : Nat) (h_t_images : Nat) (h_t_isKept : Nat) (h_t_pad : Nat) (h_t_row : Nat) (h_t_isUsed : Nat) (h_t_table : Nat) (t_said : Int32) (t_leastSize : Int32) (t_leastSet : Int32) (t_found : Int32) (t_rank : Int32) (t_determinant : Int64) (t_state : Nat → Int32) (v1 : Int32) (out : Int32 × (Nat → Int32)) (hM : M_X6_nodes v1 t_state = some out) : on_Con l yX6_nodes wsX6_nodes rm_X6_nodes [.ref h_t, .int v1] D (on_T cI cJ cZ cS cA) [(h_t, .inr (6, [.ref h_t_state, .ref h_t_images, .ref h_t_isKept, .ref h_t_pad, .int t_said, .int t_leastSize, .int t_leastSet, .int t_found, .ref h_t_row, .ref h_t_isUsed, .ref h_t_table, .int t_rank, .long t_determinant])), (h_t_state, .inl (cI, 4, .inl t_state))] (some (.int out.1)) [(h_t, .inr (6, [.ref h_t_state, .ref h_t_images, .ref h_t_isKept, .ref h_t_pad, .int t_said, .int t_leastSize, .int t_leastSet, .int t_found, .ref h_t_row, .ref h_t_isUsed, .ref h_t_table, .int t_rank, .long t_determinant])), (h_t_state, .inl (cI, 4, .inl out.2))] := by
  unfold M_X6_nodes at hM
  refine on_enter (cc := cX6_nodes) (nL := 4) (rt := (some .int)) (own := RX6) (by decide +kernel) rfl rfl (Nat.le_of_ble_eq_true rfl) ?_
  intro p e s m below meth c A ls hx hb hml hr hlk hts hown hA hK hN H locs hP hD hS hl
  have hl : lv_has ls 4 [(0, .ref h_t), (1, .int v1)] := hl
  generalize hQ : MQ below (on_Q D (some (.int out.1)) [(h_t, .inr (6, [.ref h_t_state, .ref h_t_images, .ref h_t_isKept, .ref h_t_pad, .int t_said, .int t_leastSize, .int t_leastSet, .int t_found, .ref h_t_row, .ref h_t_isUsed, .ref h_t_table, .int t_rank, .long t_determinant])), (h_t_state, .inl (cI, 4, .inl out.2))] A) _ s 0 0 A = Q
  generalize hAr : List.toArray ([.ref h_t, .int v1] : List Value) = args at hts hQ ⊢
  have w1 := hts (.fieldLink RX6 7 "OddNetsModel" "state" "[I") (by decide +kernel)
  have w2 : ∀ w ∈ wsX60, w ∈ wsX6_nodes := by decide +kernel
  have lp_27 : ∀ (v2 : Int32), ∀ (n : Nat) (v3 : Int32) (t_state : Nat → Int32) (x : (Nat → Int32)), on_loop (fun (s : Int32 × (Nat → Int32)) => B_X6_nodes_27 s.1 s.2) n (v3, t_state) = some x → (∀ (H : Heap) (locs : List Loc), va_P D vwCl [(h_t, .inr (6, [.ref h_t_state, .ref h_t_images, .ref h_t_isKept, .ref h_t_pad, .int t_said, .int t_leastSize, .int t_leastSet, .int t_found, .ref h_t_row, .ref h_t_isUsed, .ref h_t_table, .int t_rank, .long t_determinant])), (h_t_state, .inl (cI, 4, .inl x))] H → va_D A [(h_t, .inr (6, [.ref h_t_state, .ref h_t_images, .ref h_t_isKept, .ref h_t_pad, .int t_said, .int t_leastSize, .int t_leastSet, .int t_found, .ref h_t_row, .ref h_t_isUsed, .ref h_t_table, .int t_rank, .long t_determinant])), (h_t_state, .inl (cI, 4, .inl x))] → va_S A s.heap H locs → ∀ ls : Array Slot, lv_has ls 4 [(2, .int v2)] → W p l e rm_X6_nodes s m args below meth c H locs 0 0 Q (F0 m 47 ls [])) → ∀ (H : Heap) (locs : List Loc), va_P D vwCl [(h_t, .inr (6, [.ref h_t_state, .ref h_t_images, .ref h_t_isKept, .ref h_t_pad, .int t_said, .int t_leastSize, .int t_leastSet, .int t_found, .ref h_t_row, .ref h_t_isUsed, .ref h_t_table, .int t_rank, .long t_determinant])), (h_t_state, .inl (cI, 4, .inl t_state))] H → va_D A [(h_t, .inr (6, [.ref h_t_state, .ref h_t_images, .ref h_t_isKept, .ref h_t_pad, .int t_said, .int t_leastSize, .int t_leastSet, .int t_found, .ref h_t_row, .ref h_t_isUsed, .ref h_t_table, .int t_rank, .long t_determinant])), (h_t_state, .inl (cI, 4, .inl t_state))] → va_S A s.heap H locs → ∀ ls : Array Slot, lv_has ls 4 [(0, .ref h_t), (2, .int v2), (3, .int v3)] → W p l e rm_X6_nodes s m args below meth c H locs 0 0 Q (F0 m 27 ls []) := by
    intro v2
    intro n
    induction n with
    | zero =>
      intro v3 t_state x hL
      exact (on_loop0 hL).elim
    | succ n ih =>
      intro v3 t_state x hL K1 H locs hP hD hS ls hl
      obtain ⟨y, hM, hk⟩ := on_loopE hL
      have hM : B_X6_nodes_27 v3 t_state = some y := hM
      unfold B_X6_nodes_27 at hM
      refine lv_iload_n hx hb dX6_nodes_27 rfl (lv_at hl 2 rfl) ?_
      refine lv_iconst (v := 3) hx hb dX6_nodes_28 (by decide) ?_
      refine lv_icmp_ge (tgt := 47) hx hb dX6_nodes_29 (by decide) (fun c_5 => ?_) (fun c_5 => ?_)
      · have hM := on_pos c_5 hM
        have hk := on_nxR hM hk
        subst hk
        exact K1 _ _ hP hD hS ls (lv_sub hl [1] rfl)
      · have hM := on_neg c_5 hM
        refine lv_aload_n hx hb dX6_nodes_32 rfl (lv_at hl 0 rfl) ?_
        refine va_get (D := D) (ci := 6) (v := .ref h_t_state) (C := RX6) (T := TX6) (N := 13) hx hb hts w2 hown hK hP 0 rfl rfl 0 (by decide) w1 (fun _ h9 => h9) rfl dX6_nodes_33 ?_
        refine lv_iconst (v := 1) hx hb dX6_nodes_36 (by decide) ?_
        refine lv_iload_n hx hb dX6_nodes_37 rfl (lv_at hl 2 rfl) ?_
        refine lv_iadd hx hb dX6_nodes_38 ?_
        refine lv_iconst (v := 0) hx hb dX6_nodes_39 (by decide) ?_
        obtain ⟨g_6, hM⟩ := on_gdE hM
        refine va_iast hx hb hK hP hD hS 1 0 rfl rfl (on_ixE g_6) dX6_nodes_40 (fun H locs hP hD hS => ?_)
        have hP : va_P D vwCl [(h_t, .inr (6, [.ref h_t_state, .ref h_t_images, .ref h_t_isKept, .ref h_t_pad, .int t_said, .int t_leastSize, .int t_leastSet, .int t_found, .ref h_t_row, .ref h_t_isUsed, .ref h_t_table, .int t_rank, .long t_determinant])), (h_t_state, .inl (cI, 4, .inl (upd t_state (Int32.toNatClampNeg ((1 : Int32) + v3)) (0 : Int32))))] H := hP
        have hD : va_D A [(h_t, .inr (6, [.ref h_t_state, .ref h_t_images, .ref h_t_isKept, .ref h_t_pad, .int t_said, .int t_leastSize, .int t_leastSet, .int t_found, .ref h_t_row, .ref h_t_isUsed, .ref h_t_table, .int t_rank, .long t_determinant])), (h_t_state, .inl (cI, 4, .inl (upd t_state (Int32.toNatClampNeg ((1 : Int32) + v3)) (0 : Int32))))] := hD
        obtain ⟨v3_7, ev3_7⟩ : ∃ z : Int32, z = v3 + 1 := ⟨_, rfl⟩
        have hM := on_letE ev3_7 hM
        refine lv_iinc (v := v3_7) (lv' := [(3, .int v3_7), (0, .ref h_t), (2, .int v2)]) hx hb dX6_nodes_41 hl (k := 2) rfl (by rw [ev3_7]; rfl) (by decide) rfl (fun ls hl => ?_)
        refine lv_goto (tgt := 27) hx hb dX6_nodes_44 (by decide) ?_
        have hk := on_nxL hM hk
        exact ih v3_7 (upd t_state (Int32.toNatClampNeg ((1 : Int32) + v3)) (0 : Int32)) _ hk K1 _ _ hP hD hS ls (lv_sub hl [1, 2, 0] rfl)
  refine lv_iload_n hx hb dX6_nodes_0 rfl (lv_at hl 1 rfl) ?_
  refine lv_iconst (v := 3) hx hb dX6_nodes_1 (by decide) ?_
  refine lv_bipush (v := 7) hx hb dX6_nodes_2 (by decide) ?_
  obtain ⟨q_1, hq_1, hM⟩ := on_bind hM
  refine on_callS0 (rest := []) (As := [.int v1, .int (3 : Int32), .int (7 : Int32)]) (st1 := [.int q_1]) ⟨hx, hb, hml, hown, hts⟩ (k_X6_in v1 (3 : Int32) (7 : Int32) q_1 hq_1) (va_cwS 3 hts gX6_nodes_X6_in rfl rfl rfl hdX6_in ⟨(Nat.le_of_ble_eq_true rfl), (Nat.le_of_ble_eq_true rfl)⟩) hK hN hP hD hS hA rfl hl.1 rfl (Nat.le_of_ble_eq_true rfl) rfl dX6_nodes_4 ⟨Nat.zero_le _, Nat.zero_le _⟩ (fun H locs hP hS => ?_)
  refine lv_if_ne (tgt := 13) hx hb dX6_nodes_7 (by decide) (fun c_2 => ?_) (fun c_2 => ?_)
  · have hM := on_neg c_2 hM
    refine lv_aload_n hx hb dX6_nodes_13 rfl (lv_at hl 0 rfl) ?_
    obtain ⟨q_3, hq_3, hM⟩ := on_bind hM
    refine on_callV (rest := []) (As := []) (st1 := [.int q_3]) (C := RX6) (ci := 6) (q0 := 0) (wc := [(h_t, .inr (6, [.ref h_t_state, .ref h_t_images, .ref h_t_isKept, .ref h_t_pad, .int t_said, .int t_leastSize, .int t_leastSet, .int t_found, .ref h_t_row, .ref h_t_isUsed, .ref h_t_table, .int t_rank, .long t_determinant])), (h_t_state, .inl (cI, 4, .inl t_state))]) (wr := []) (wc' := [(h_t, .inr (6, [.ref h_t_state, .ref h_t_images, .ref h_t_isKept, .ref h_t_pad, .int t_said, .int t_leastSize, .int t_leastSet, .int t_found, .ref h_t_row, .ref h_t_isUsed, .ref h_t_table, .int t_rank, .long t_determinant])), (h_t_state, .inl (cI, 4, .inl t_state))]) (wf := [(h_t, .inr (6, [.ref h_t_state, .ref h_t_images, .ref h_t_isKept, .ref h_t_pad, .int t_said, .int t_leastSize, .int t_leastSet, .int t_found, .ref h_t_row, .ref h_t_isUsed, .ref h_t_table, .int t_rank, .long t_determinant])), (h_t_state, .inl (cI, 4, .inl t_state))]) (rt := (some (.int q_3))) ⟨hx, hb, hml, hown, hts⟩ (k_X6_many h_t h_t_state h_t_images h_t_isKept h_t_pad h_t_row h_t_isUsed h_t_table t_said t_leastSize t_leastSet t_found t_rank t_determinant t_state q_3 hq_3) (cwV 0 hts gX6_nodes_X6_many rfl rfl rfl ⟨rfl, hdX6_many⟩ ⟨(Nat.le_of_ble_eq_true rfl), (Nat.le_of_ble_eq_true rfl)⟩) hK hN hP hD hS hA [0, 1] [] [0, 1] rfl rfl rfl rfl (by decide) rfl rfl rfl rfl rfl rfl hl.1 rfl (Nat.le_of_ble_eq_true rfl) rfl dX6_nodes_14 ⟨Nat.zero_le _, Nat.zero_le _⟩ (fun H locs hP hD hS => ?_)
    refine lv_istore_n (lv' := [(2, .int q_3), (0, .ref h_t), (1, .int v1)]) hx hb dX6_nodes_17 rfl hl (by decide) rfl (fun ls hl => ?_)
    refine lv_aload_n hx hb dX6_nodes_18 rfl (lv_at hl 1 rfl) ?_
    refine va_get (D := D) (ci := 6) (v := .ref h_t_state) (C := RX6) (T := TX6) (N := 13) hx hb hts w2 hown hK hP 0 rfl rfl 0 (by decide) w1 (fun _ h9 => h9) rfl dX6_nodes_19 ?_
    refine lv_iconst (v := 0) hx hb dX6_nodes_22 (by decide) ?_
    refine lv_iload_n hx hb dX6_nodes_23 rfl (lv_at hl 2 rfl) ?_
    obtain ⟨g_4, hM⟩ := on_gdE hM
    refine va_iast hx hb hK hP hD hS 1 0 rfl rfl (on_ixE g_4) dX6_nodes_24 (fun H locs hP hD hS => ?_)
    have hP : va_P D vwCl [(h_t, .inr (6, [.ref h_t_state, .ref h_t_images, .ref h_t_isKept, .ref h_t_pad, .int t_said, .int t_leastSize, .int t_leastSet, .int t_found, .ref h_t_row, .ref h_t_isUsed, .ref h_t_table, .int t_rank, .long t_determinant])), (h_t_state, .inl (cI, 4, .inl (upd t_state (Int32.toNatClampNeg (0 : Int32)) v1)))] H := hP
    have hD : va_D A [(h_t, .inr (6, [.ref h_t_state, .ref h_t_images, .ref h_t_isKept, .ref h_t_pad, .int t_said, .int t_leastSize, .int t_leastSet, .int t_found, .ref h_t_row, .ref h_t_isUsed, .ref h_t_table, .int t_rank, .long t_determinant])), (h_t_state, .inl (cI, 4, .inl (upd t_state (Int32.toNatClampNeg (0 : Int32)) v1)))] := hD
    refine lv_iconst (v := 0) hx hb dX6_nodes_25 (by decide) ?_
    refine lv_istore_n (lv' := [(3, .int (0 : Int32)), (2, .int q_3), (0, .ref h_t), (1, .int v1)]) hx hb dX6_nodes_26 rfl hl (by decide) rfl (fun ls hl => ?_)
    obtain ⟨q_8, hq_8, hM⟩ := on_bind hM
    refine lp_27 q_3 on_F (0 : Int32) (upd t_state (Int32.toNatClampNeg (0 : Int32)) v1) q_8 hq_8 (fun H locs hP hD hS ls hl => ?_) H locs hP hD hS ls (lv_sub hl [2, 1, 0] rfl)
    refine lv_iload_n hx hb dX6_nodes_47 rfl (lv_at hl 0 rfl) ?_
    have hM := Option.some.inj hM
    subst hM
    rw [← hQ]
    exact on_iret hx hb hr hlk hP hD hS dX6_nodes_48
  · have hM := on_pos c_2 hM
    refine lv_bipush (v := -2) hx hb dX6_nodes_10 (by decide) ?_
    have hM := Option.some.inj hM
    subst hM
    rw [← hQ]
    exact on_iret hx hb hr hlk hP hD hS dX6_nodes_12
