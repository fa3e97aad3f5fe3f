abbrev rm_X6_root : Room := { frames := 4, cells := 0, slots := 0, locals := 92 }
set_option maxHeartbeats 4000000 in
set_option maxRecDepth 100000 in
theorem k_X6_root {l : Launch} {D : va_G} {cI cJ cZ cS cA : ClassId} (h_t : Nat) (h_t_state : Nat) (h_t_images : Nat) (h_t_isKept : Nat) (h_t_pad : Nat) (h_t_row : Nat) (h_t_isUsed : Nat) (h_t_table : Nat) (t_said : Int32) (t_leastSize : Int32) (t_leastSet : Int32) (t_found : Int32) (t_rank : Int32) (t_determinant : Int64) (t_state : Nat → Int32) (t_table : Nat → Int64) (v1 : Int32) (v2 : Int32) (v3 : Int32) (out : Int64 × Int32 × Int64 × (Nat → Int64)) (hM : M_X6_root v1 v2 v3 t_rank t_determinant t_state t_table = some out) : on_Con l yX6_root wsX6_root rm_X6_root [.ref h_t, .int v1, .int v2, .int v3] D (on_T cI cJ cZ cS cA) [(h_t, .inr (6, [.ref h_t_state, .ref h_t_images, .ref h_t_isKept, .ref h_t_pad, .int t_said, .int t_leastSize, .int t_leastSet, .int t_found, .ref h_t_row, .ref h_t_isUsed, .ref h_t_table, .int t_rank, .long t_determinant])), (h_t_state, .inl (cI, 4, .inl t_state)), (h_t_table, .inl (cJ, 49, .inr (.inl t_table)))] (some (.long out.1)) [(h_t, .inr (6, [.ref h_t_state, .ref h_t_images, .ref h_t_isKept, .ref h_t_pad, .int t_said, .int t_leastSize, .int t_leastSet, .int t_found, .ref h_t_row, .ref h_t_isUsed, .ref h_t_table, .int out.2.1, .long out.2.2.1])), (h_t_state, .inl (cI, 4, .inl t_state)), (h_t_table, .inl (cJ, 49, .inr (.inl out.2.2.2)))] := by
  unfold M_X6_root at hM
  refine on_enter (cc := cX6_root) (nL := 4) (rt := (some .long)) (own := RX6) (by decide +kernel) rfl rfl (Nat.le_of_ble_eq_true rfl) ?_
  intro p e s m below meth c A ls hx hb hml hr hlk hts hown hA hK hN H locs hP hD hS hl
  have hl : lv_has ls 4 [(0, .ref h_t), (1, .int v1), (2, .int v2), (3, .int v3)] := hl
  generalize hQ : MQ below (on_Q D (some (.long out.1)) [(h_t, .inr (6, [.ref h_t_state, .ref h_t_images, .ref h_t_isKept, .ref h_t_pad, .int t_said, .int t_leastSize, .int t_leastSet, .int t_found, .ref h_t_row, .ref h_t_isUsed, .ref h_t_table, .int out.2.1, .long out.2.2.1])), (h_t_state, .inl (cI, 4, .inl t_state)), (h_t_table, .inl (cJ, 49, .inr (.inl out.2.2.2)))] A) _ s 0 0 A = Q
  generalize hAr : List.toArray ([.ref h_t, .int v1, .int v2, .int v3] : List Value) = args at hts hQ ⊢
  have w1 := hts (.constantLong RX6 199 (-1000000000002)) (by decide +kernel)
  have w2 := hts (.fieldLink RX6 180 "OddNetsModel" "rank" "I") (by decide +kernel)
  have w3 : ∀ w ∈ wsX60, w ∈ wsX6_root := by decide +kernel
  have w4 := hts (.fieldLink RX6 193 "OddNetsModel" "determinant" "J") (by decide +kernel)
  have w5 := hts (.constantLong RX6 197 (-1000000000001)) (by decide +kernel)
  refine lv_iload_n hx hb dX6_root_0 rfl (lv_at hl 1 rfl) ?_
  obtain ⟨q_1, hq_1, hM⟩ := on_bind hM
  refine on_callS0 (rest := []) (As := [.int v1]) (st1 := [.int q_1]) ⟨hx, hb, hml, hown, hts⟩ (k_X6_isSlot v1 q_1 hq_1) (va_cwS 1 hts gX6_root_X6_isSlot rfl rfl rfl hdX6_isSlot ⟨(Nat.le_of_ble_eq_true rfl), (Nat.le_of_ble_eq_true rfl)⟩) hK hN hP hD hS hA rfl hl.1 rfl (Nat.le_of_ble_eq_true rfl) rfl dX6_root_1 ⟨Nat.zero_le _, Nat.zero_le _⟩ (fun H locs hP hS => ?_)
  refine lv_if_ne (tgt := 11) hx hb dX6_root_4 (by decide) (fun c_2 => ?_) (fun c_2 => ?_)
  · have hM := on_neg c_2 hM
    refine lv_iload_n hx hb dX6_root_11 rfl (lv_at hl 2 rfl) ?_
    refine lv_bipush (v := -9) hx hb dX6_root_12 (by decide) ?_
    refine lv_bipush (v := 9) hx hb dX6_root_14 (by decide) ?_
    obtain ⟨q_3, hq_3, hM⟩ := on_bind hM
    refine on_callS0 (rest := []) (As := [.int v2, .int (-9 : Int32), .int (9 : Int32)]) (st1 := [.int q_3]) ⟨hx, hb, hml, hown, hts⟩ (k_X6_in v2 (-9 : Int32) (9 : Int32) q_3 hq_3) (va_cwS 3 hts gX6_root_X6_in rfl rfl rfl hdX6_in ⟨(Nat.le_of_ble_eq_true rfl), (Nat.le_of_ble_eq_true rfl)⟩) hK hN hP hD hS hA rfl hl.1 rfl (Nat.le_of_ble_eq_true rfl) rfl dX6_root_16 ⟨Nat.zero_le _, Nat.zero_le _⟩ (fun H locs hP hS => ?_)
    refine lv_if_eq (tgt := 31) hx hb dX6_root_19 (by decide) (fun c_4 => ?_) (fun c_4 => ?_)
    · have hM := on_pos c_4 hM
      refine lv_ldc2 hx hb hown w1 dX6_root_31 ?_
      have hM := Option.some.inj hM
      subst hM
      rw [← hQ]
      exact on_lret hx hb hr hlk hP hD hS dX6_root_34
    · have hM := on_neg c_4 hM
      refine lv_iload_n hx hb dX6_root_22 rfl (lv_at hl 3 rfl) ?_
      refine lv_iconst (v := 0) hx hb dX6_root_23 (by decide) ?_
      refine lv_iconst (v := 1) hx hb dX6_root_24 (by decide) ?_
      obtain ⟨q_5, hq_5, hM⟩ := on_bind hM
      refine on_callS0 (rest := []) (As := [.int v3, .int (0 : Int32), .int (1 : Int32)]) (st1 := [.int q_5]) ⟨hx, hb, hml, hown, hts⟩ (k_X6_in v3 (0 : Int32) (1 : Int32) q_5 hq_5) (va_cwS 3 hts gX6_root_X6_in rfl rfl rfl hdX6_in ⟨(Nat.le_of_ble_eq_true rfl), (Nat.le_of_ble_eq_true rfl)⟩) hK hN hP hD hS hA rfl hl.1 rfl (Nat.le_of_ble_eq_true rfl) rfl dX6_root_25 ⟨Nat.zero_le _, Nat.zero_le _⟩ (fun H locs hP hS => ?_)
      refine lv_if_ne (tgt := 35) hx hb dX6_root_28 (by decide) (fun c_6 => ?_) (fun c_6 => ?_)
      · have hM := on_neg c_6 hM
        refine lv_aload_n hx hb dX6_root_35 rfl (lv_at hl 0 rfl) ?_
        refine lv_aload_n hx hb dX6_root_36 rfl (lv_at hl 0 rfl) ?_
        refine lv_iload_n hx hb dX6_root_37 rfl (lv_at hl 1 rfl) ?_
        obtain ⟨q_7, hq_7, hM⟩ := on_bind hM
        refine on_callV (rest := [.ref h_t]) (As := [.int v1]) (st1 := [.int q_7, .ref h_t]) (C := RX6) (ci := 6) (q0 := 0) (wc := [(h_t, .inr (6, [.ref h_t_state, .ref h_t_images, .ref h_t_isKept, .ref h_t_pad, .int t_said, .int t_leastSize, .int t_leastSet, .int t_found, .ref h_t_row, .ref h_t_isUsed, .ref h_t_table, .int t_rank, .long t_determinant])), (h_t_state, .inl (cI, 4, .inl t_state))]) (wr := [(h_t_table, .inl (cJ, 49, .inr (.inl t_table)))]) (wc' := [(h_t, .inr (6, [.ref h_t_state, .ref h_t_images, .ref h_t_isKept, .ref h_t_pad, .int t_said, .int t_leastSize, .int t_leastSet, .int t_found, .ref h_t_row, .ref h_t_isUsed, .ref h_t_table, .int t_rank, .long t_determinant])), (h_t_state, .inl (cI, 4, .inl t_state))]) (wf := [(h_t, .inr (6, [.ref h_t_state, .ref h_t_images, .ref h_t_isKept, .ref h_t_pad, .int t_said, .int t_leastSize, .int t_leastSet, .int t_found, .ref h_t_row, .ref h_t_isUsed, .ref h_t_table, .int t_rank, .long t_determinant])), (h_t_state, .inl (cI, 4, .inl t_state)), (h_t_table, .inl (cJ, 49, .inr (.inl t_table)))]) (rt := (some (.int q_7))) ⟨hx, hb, hml, hown, hts⟩ (k_X6_netOf h_t h_t_state h_t_images h_t_isKept h_t_pad h_t_row h_t_isUsed h_t_table t_said t_leastSize t_leastSet t_found t_rank t_determinant t_state v1 q_7 hq_7) (cwV 1 hts gX6_root_X6_netOf rfl rfl rfl ⟨rfl, hdX6_netOf⟩ ⟨(Nat.le_of_ble_eq_true rfl), (Nat.le_of_ble_eq_true rfl)⟩) hK hN hP hD hS hA [0, 1] [2] [1, 2, 0] rfl rfl rfl rfl (by decide) rfl rfl rfl rfl rfl rfl hl.1 rfl (Nat.le_of_ble_eq_true rfl) rfl dX6_root_38 ⟨Nat.zero_le _, Nat.zero_le _⟩ (fun H locs hP hD hS => ?_)
        refine lv_iload_n hx hb dX6_root_41 rfl (lv_at hl 2 rfl) ?_
        obtain ⟨q_8, hq_8, hM⟩ := on_bind hM
        refine on_callV (rest := []) (As := [.int q_7, .int v2]) (st1 := []) (C := RX6) (ci := 6) (q0 := 0) (wc := [(h_t, .inr (6, [.ref h_t_state, .ref h_t_images, .ref h_t_isKept, .ref h_t_pad, .int t_said, .int t_leastSize, .int t_leastSet, .int t_found, .ref h_t_row, .ref h_t_isUsed, .ref h_t_table, .int t_rank, .long t_determinant])), (h_t_state, .inl (cI, 4, .inl t_state)), (h_t_table, .inl (cJ, 49, .inr (.inl t_table)))]) (wr := []) (wc' := [(h_t, .inr (6, [.ref h_t_state, .ref h_t_images, .ref h_t_isKept, .ref h_t_pad, .int t_said, .int t_leastSize, .int t_leastSet, .int t_found, .ref h_t_row, .ref h_t_isUsed, .ref h_t_table, .int t_rank, .long t_determinant])), (h_t_state, .inl (cI, 4, .inl t_state)), (h_t_table, .inl (cJ, 49, .inr (.inl q_8)))]) (wf := [(h_t, .inr (6, [.ref h_t_state, .ref h_t_images, .ref h_t_isKept, .ref h_t_pad, .int t_said, .int t_leastSize, .int t_leastSet, .int t_found, .ref h_t_row, .ref h_t_isUsed, .ref h_t_table, .int t_rank, .long t_determinant])), (h_t_state, .inl (cI, 4, .inl t_state)), (h_t_table, .inl (cJ, 49, .inr (.inl q_8)))]) (rt := none) ⟨hx, hb, hml, hown, hts⟩ (k_X6_layTable h_t h_t_state h_t_images h_t_isKept h_t_pad h_t_row h_t_isUsed h_t_table t_said t_leastSize t_leastSet t_found t_rank t_determinant t_state t_table q_7 v2 q_8 hq_8) (cwV 2 hts gX6_root_X6_layTable rfl rfl rfl ⟨rfl, hdX6_layTable⟩ ⟨(Nat.le_of_ble_eq_true rfl), (Nat.le_of_ble_eq_true rfl)⟩) hK hN hP hD hS hA [0, 1, 2] [] [0, 1, 2] rfl rfl rfl rfl (by decide) rfl rfl rfl rfl rfl rfl hl.1 rfl (Nat.le_of_ble_eq_true rfl) rfl dX6_root_42 ⟨Nat.zero_le _, Nat.zero_le _⟩ (fun H locs hP hD hS => ?_)
        refine lv_aload_n hx hb dX6_root_45 rfl (lv_at hl 0 rfl) ?_
        obtain ⟨q_9, hq_9, hM⟩ := on_bind hM
        refine on_callV (rest := []) (As := []) (st1 := []) (C := RX6) (ci := 6) (q0 := 0) (wc := [(h_t, .inr (6, [.ref h_t_state, .ref h_t_images, .ref h_t_isKept, .ref h_t_pad, .int t_said, .int t_leastSize, .int t_leastSet, .int t_found, .ref h_t_row, .ref h_t_isUsed, .ref h_t_table, .int t_rank, .long t_determinant])), (h_t_state, .inl (cI, 4, .inl t_state)), (h_t_table, .inl (cJ, 49, .inr (.inl q_8)))]) (wr := []) (wc' := [(h_t, .inr (6, [.ref h_t_state, .ref h_t_images, .ref h_t_isKept, .ref h_t_pad, .int t_said, .int t_leastSize, .int t_leastSet, .int t_found, .ref h_t_row, .ref h_t_isUsed, .ref h_t_table, .int q_9.1, .long q_9.2.1])), (h_t_state, .inl (cI, 4, .inl t_state)), (h_t_table, .inl (cJ, 49, .inr (.inl q_9.2.2)))]) (wf := [(h_t, .inr (6, [.ref h_t_state, .ref h_t_images, .ref h_t_isKept, .ref h_t_pad, .int t_said, .int t_leastSize, .int t_leastSet, .int t_found, .ref h_t_row, .ref h_t_isUsed, .ref h_t_table, .int q_9.1, .long q_9.2.1])), (h_t_state, .inl (cI, 4, .inl t_state)), (h_t_table, .inl (cJ, 49, .inr (.inl q_9.2.2)))]) (rt := none) ⟨hx, hb, hml, hown, hts⟩ (k_X6_workOut h_t h_t_state h_t_images h_t_isKept h_t_pad h_t_row h_t_isUsed h_t_table t_said t_leastSize t_leastSet t_found t_rank t_determinant t_state q_8 q_9 hq_9) (cwV 0 hts gX6_root_X6_workOut rfl rfl rfl ⟨rfl, hdX6_workOut⟩ ⟨(Nat.le_of_ble_eq_true rfl), (Nat.le_of_ble_eq_true rfl)⟩) hK hN hP hD hS hA [0, 1, 2] [] [0, 1, 2] rfl rfl rfl rfl (by decide) rfl rfl rfl rfl rfl rfl hl.1 rfl (Nat.le_of_ble_eq_true rfl) rfl dX6_root_46 ⟨Nat.zero_le _, Nat.zero_le _⟩ (fun H locs hP hD hS => ?_)
        refine lv_iload_n hx hb dX6_root_49 rfl (lv_at hl 3 rfl) ?_
        refine lv_if_ne (tgt := 60) hx hb dX6_root_50 (by decide) (fun c_10 => ?_) (fun c_10 => ?_)
        · have hM := on_neg c_10 hM
          refine lv_aload_n hx hb dX6_root_60 rfl (lv_at hl 0 rfl) ?_
          obtain ⟨q_11, hq_11, hM⟩ := on_bind hM
          refine on_callV (rest := []) (As := []) (st1 := [.int q_11]) (C := RX6) (ci := 6) (q0 := 0) (wc := [(h_t, .inr (6, [.ref h_t_state, .ref h_t_images, .ref h_t_isKept, .ref h_t_pad, .int t_said, .int t_leastSize, .int t_leastSet, .int t_found, .ref h_t_row, .ref h_t_isUsed, .ref h_t_table, .int q_9.1, .long q_9.2.1])), (h_t_state, .inl (cI, 4, .inl t_state))]) (wr := [(h_t_table, .inl (cJ, 49, .inr (.inl q_9.2.2)))]) (wc' := [(h_t, .inr (6, [.ref h_t_state, .ref h_t_images, .ref h_t_isKept, .ref h_t_pad, .int t_said, .int t_leastSize, .int t_leastSet, .int t_found, .ref h_t_row, .ref h_t_isUsed, .ref h_t_table, .int q_9.1, .long q_9.2.1])), (h_t_state, .inl (cI, 4, .inl t_state))]) (wf := [(h_t, .inr (6, [.ref h_t_state, .ref h_t_images, .ref h_t_isKept, .ref h_t_pad, .int t_said, .int t_leastSize, .int t_leastSet, .int t_found, .ref h_t_row, .ref h_t_isUsed, .ref h_t_table, .int q_9.1, .long q_9.2.1])), (h_t_state, .inl (cI, 4, .inl t_state)), (h_t_table, .inl (cJ, 49, .inr (.inl q_9.2.2)))]) (rt := (some (.int q_11))) ⟨hx, hb, hml, hown, hts⟩ (k_X6_many h_t h_t_state h_t_images h_t_isKept h_t_pad h_t_row h_t_isUsed h_t_table t_said t_leastSize t_leastSet t_found q_9.1 q_9.2.1 t_state q_11 hq_11) (cwV 0 hts gX6_root_X6_many rfl rfl rfl ⟨rfl, hdX6_many⟩ ⟨(Nat.le_of_ble_eq_true rfl), (Nat.le_of_ble_eq_true rfl)⟩) hK hN hP hD hS hA [0, 1] [2] [1, 2, 0] rfl rfl rfl rfl (by decide) rfl rfl rfl rfl rfl rfl hl.1 rfl (Nat.le_of_ble_eq_true rfl) rfl dX6_root_61 ⟨Nat.zero_le _, Nat.zero_le _⟩ (fun H locs hP hD hS => ?_)
          refine lv_aload_n hx hb dX6_root_64 rfl (lv_at hl 0 rfl) ?_
          refine va_get (D := D) (ci := 6) (v := .int q_9.1) (C := RX6) (T := TX6) (N := 13) hx hb hts w3 hown hK hP 0 rfl rfl 11 (by decide) w2 (fun _ h9 => h9) rfl dX6_root_65 ?_
          refine lv_isub hx hb dX6_root_68 ?_
          refine lv_i2l hx hb dX6_root_69 rfl ?_
          have hM := Option.some.inj hM
          subst hM
          rw [← hQ]
          exact on_lret hx hb hr hlk hP hD hS dX6_root_70
        · have hM := on_pos c_10 hM
          refine lv_aload_n hx hb dX6_root_53 rfl (lv_at hl 0 rfl) ?_
          refine va_get (D := D) (ci := 6) (v := .long q_9.2.1) (C := RX6) (T := TX6) (N := 13) hx hb hts w3 hown hK hP 0 rfl rfl 12 (by decide) w4 (fun _ h9 => h9) rfl dX6_root_54 ?_
          refine lv_goto (tgt := 70) hx hb dX6_root_57 (by decide) ?_
          have hM := Option.some.inj hM
          subst hM
          rw [← hQ]
          exact on_lret hx hb hr hlk hP hD hS dX6_root_70
      · have hM := on_pos c_6 hM
        refine lv_ldc2 hx hb hown w1 dX6_root_31 ?_
        have hM := Option.some.inj hM
        subst hM
        rw [← hQ]
        exact on_lret hx hb hr hlk hP hD hS dX6_root_34
  · have hM := on_pos c_2 hM
    refine lv_ldc2 hx hb hown w5 dX6_root_7 ?_
    have hM := Option.some.inj hM
    subst hM
    rw [← hQ]
    exact on_lret hx hb hr hlk hP hD hS dX6_root_10
abbrev rm_X6_image : Room := { frames := 1, cells := 0, slots := 0, locals := 22 }
set_option maxHeartbeats 4000000 in
set_option maxRecDepth 100000 in
theorem k_X6_image {l : Launch} {D : va_G} {cI cJ cZ cS cA : ClassId} (h_t : Nat) (h_t_state : Nat) (h_t_images : Nat) (h_t_isKept : Nat) (h_t_pad : Nat) (h_t_row : Nat) (h_t_isUsed : Nat) (h_t_table : Nat) (t_said : Int32) (t_leastSize : Int32) (t_leastSet : Int32) (t_found : Int32) (t_rank : Int32) (t_determinant : Int64) (t_state : Nat → Int32) (t_images : Nat → Int32) (t_isKept : Nat → Int32) (v1 : Int32) (out : Int32 × (Nat → Int32) × (Nat → Int32)) (hM : M_X6_image v1 t_state t_images t_isKept = some out) : on_Con l yX6_image wsX6_image rm_X6_image [.ref h_t, .int v1] D (on_T cI cJ cZ cS cA) [(h_t, .inr (6, [.ref h_t_state, .ref h_t_images, .ref h_t_isKept, .ref h_t_pad, .int t_said, .int t_leastSize, .int t_leastSet, .int t_found, .ref h_t_row, .ref h_t_isUsed, .ref h_t_table, .int t_rank, .long t_determinant])), (h_t_state, .inl (cI, 4, .inl t_state)), (h_t_images, .inl (cI, 8, .inl t_images)), (h_t_isKept, .inl (cZ, 2, .inl t_isKept))] (some (.int out.1)) [(h_t, .inr (6, [.ref h_t_state, .ref h_t_images, .ref h_t_isKept, .ref h_t_pad, .int t_said, .int t_leastSize, .int t_leastSet, .int t_found, .ref h_t_row, .ref h_t_isUsed, .ref h_t_table, .int t_rank, .long t_determinant])), (h_t_state, .inl (cI, 4, .inl t_state)), (h_t_images, .inl (cI, 8, .inl out.2.1)), (h_t_isKept, .inl (cZ, 2, .inl out.2.2))] := by
  unfold M_X6_image at hM
  refine on_enter (cc := cX6_image) (nL := 3) (rt := (some .int)) (own := RX6) (by decide +kernel) rfl rfl (Nat.le_of_ble_eq_true rfl) ?_
  intro p e s m below meth c A ls hx hb hml hr hlk hts hown hA hK hN H locs hP hD hS hl
  have hl : lv_has ls 3 [(0, .ref h_t), (1, .int v1)] := hl
  generalize hQ : MQ below (on_Q D (some (.int out.1)) [(h_t, .inr (6, [.ref h_t_state, .ref h_t_images, .ref h_t_isKept, .ref h_t_pad, .int t_said, .int t_leastSize, .int t_leastSet, .int t_found, .ref h_t_row, .ref h_t_isUsed, .ref h_t_table, .int t_rank, .long t_determinant])), (h_t_state, .inl (cI, 4, .inl t_state)), (h_t_images, .inl (cI, 8, .inl out.2.1)), (h_t_isKept, .inl (cZ, 2, .inl out.2.2))] A) _ s 0 0 A = Q
  generalize hAr : List.toArray ([.ref h_t, .int v1] : List Value) = args at hts hQ ⊢
  have w1 := hts (.fieldLink RX6 13 "OddNetsModel" "images" "[I") (by decide +kernel)
  have w2 : ∀ w ∈ wsX60, w ∈ wsX6_image := by decide +kernel
  have w3 := hts (.fieldLink RX6 7 "OddNetsModel" "state" "[I") (by decide +kernel)
  have w4 := hts (.fieldLink RX6 16 "OddNetsModel" "isKept" "[Z") (by decide +kernel)
  have lp_14 : ∀ (v1 : Int32) (t_isKept : Nat → Int32), ∀ (n : Nat) (v2 : Int32) (t_images : Nat → Int32) (x : (Nat → Int32)), on_loop (fun (s : Int32 × (Nat → Int32)) => B_X6_image_14 v1 t_state s.1 s.2) n (v2, t_images) = some x → (∀ (H : Heap) (locs : List Loc), va_P D vwCl [(h_t, .inr (6, [.ref h_t_state, .ref h_t_images, .ref h_t_isKept, .ref h_t_pad, .int t_said, .int t_leastSize, .int t_leastSet, .int t_found, .ref h_t_row, .ref h_t_isUsed, .ref h_t_table, .int t_rank, .long t_determinant])), (h_t_state, .inl (cI, 4, .inl t_state)), (h_t_images, .inl (cI, 8, .inl x)), (h_t_isKept, .inl (cZ, 2, .inl t_isKept))] H → va_D A [(h_t, .inr (6, [.ref h_t_state, .ref h_t_images, .ref h_t_isKept, .ref h_t_pad, .int t_said, .int t_leastSize, .int t_leastSet, .int t_found, .ref h_t_row, .ref h_t_isUsed, .ref h_t_table, .int t_rank, .long t_determinant])), (h_t_state, .inl (cI, 4, .inl t_state)), (h_t_images, .inl (cI, 8, .inl x)), (h_t_isKept, .inl (cZ, 2, .inl t_isKept))] → va_S A s.heap H locs → ∀ ls : Array Slot, lv_has ls 3 [(0, .ref h_t), (1, .int v1)] → W p l e rm_X6_image s m args below meth c H locs 0 0 Q (F0 m 41 ls [])) → ∀ (H : Heap) (locs : List Loc), va_P D vwCl [(h_t, .inr (6, [.ref h_t_state, .ref h_t_images, .ref h_t_isKept, .ref h_t_pad, .int t_said, .int t_leastSize, .int t_leastSet, .int t_found, .ref h_t_row, .ref h_t_isUsed, .ref h_t_table, .int t_rank, .long t_determinant])), (h_t_state, .inl (cI, 4, .inl t_state)), (h_t_images, .inl (cI, 8, .inl t_images)), (h_t_isKept, .inl (cZ, 2, .inl t_isKept))] H → va_D A [(h_t, .inr (6, [.ref h_t_state, .ref h_t_images, .ref h_t_isKept, .ref h_t_pad, .int t_said, .int t_leastSize, .int t_leastSet, .int t_found, .ref h_t_row, .ref h_t_isUsed, .ref h_t_table, .int t_rank, .long t_determinant])), (h_t_state, .inl (cI, 4, .inl t_state)), (h_t_images, .inl (cI, 8, .inl t_images)), (h_t_isKept, .inl (cZ, 2, .inl t_isKept))] → va_S A s.heap H locs → ∀ ls : Array Slot, lv_has ls 3 [(0, .ref h_t), (1, .int v1), (2, .int v2)] → W p l e rm_X6_image s m args below meth c H locs 0 0 Q (F0 m 14 ls []) := by
    intro v1 t_isKept
    intro n
    induction n with
    | zero =>
      intro v2 t_images x hL
      exact (on_loop0 hL).elim
    | succ n ih =>
      intro v2 t_images x hL K1 H locs hP hD hS ls hl
      obtain ⟨y, hM, hk⟩ := on_loopE hL
      have hM : B_X6_image_14 v1 t_state v2 t_images = some y := hM
      unfold B_X6_image_14 at hM
      refine lv_iload_n hx hb dX6_image_14 rfl (lv_at hl 2 rfl) ?_
      refine lv_iconst (v := 4) hx hb dX6_image_15 (by decide) ?_
      refine lv_icmp_ge (tgt := 41) hx hb dX6_image_16 (by decide) (fun c_3 => ?_) (fun c_3 => ?_)
      · have hM := on_pos c_3 hM
        have hk := on_nxR hM hk
        subst hk
        exact K1 _ _ hP hD hS ls (lv_sub hl [0, 1] rfl)
      · have hM := on_neg c_3 hM
        refine lv_aload_n hx hb dX6_image_19 rfl (lv_at hl 0 rfl) ?_
        refine va_get (D := D) (ci := 6) (v := .ref h_t_images) (C := RX6) (T := TX6) (N := 13) hx hb hts w2 hown hK hP 0 rfl rfl 1 (by decide) w1 (fun _ h9 => h9) rfl dX6_image_20 ?_
        refine lv_iconst (v := 4) hx hb dX6_image_23 (by decide) ?_
        refine lv_iload_n hx hb dX6_image_24 rfl (lv_at hl 1 rfl) ?_
        refine lv_imul hx hb dX6_image_25 ?_
        refine lv_iload_n hx hb dX6_image_26 rfl (lv_at hl 2 rfl) ?_
        refine lv_iadd hx hb dX6_image_27 ?_
        refine lv_aload_n hx hb dX6_image_28 rfl (lv_at hl 0 rfl) ?_
        refine va_get (D := D) (ci := 6) (v := .ref h_t_state) (C := RX6) (T := TX6) (N := 13) hx hb hts w2 hown hK hP 0 rfl rfl 0 (by decide) w3 (fun _ h9 => h9) rfl dX6_image_29 ?_
        refine lv_iload_n hx hb dX6_image_32 rfl (lv_at hl 2 rfl) ?_
        obtain ⟨g_4, hM⟩ := on_gdE hM
        refine va_iald hx hb hK hP 1 0 rfl rfl (on_ixE g_4) dX6_image_33 ?_
        obtain ⟨g_5, hM⟩ := on_gdE hM
        refine va_iast hx hb hK hP hD hS 2 0 rfl rfl (on_ixE g_5) dX6_image_34 (fun H locs hP hD hS => ?_)
        have hP : va_P D vwCl [(h_t, .inr (6, [.ref h_t_state, .ref h_t_images, .ref h_t_isKept, .ref h_t_pad, .int t_said, .int t_leastSize, .int t_leastSet, .int t_found, .ref h_t_row, .ref h_t_isUsed, .ref h_t_table, .int t_rank, .long t_determinant])), (h_t_state, .inl (cI, 4, .inl t_state)), (h_t_images, .inl (cI, 8, .inl (upd t_images (Int32.toNatClampNeg (((4 : Int32) * v1) + v2)) (t_state (Int32.toNatClampNeg v2))))), (h_t_isKept, .inl (cZ, 2, .inl t_isKept))] H := hP
        have hD : va_D A [(h_t, .inr (6, [.ref h_t_state, .ref h_t_images, .ref h_t_isKept, .ref h_t_pad, .int t_said, .int t_leastSize, .int t_leastSet, .int t_found, .ref h_t_row, .ref h_t_isUsed, .ref h_t_table, .int t_rank, .long t_determinant])), (h_t_state, .inl (cI, 4, .inl t_state)), (h_t_images, .inl (cI, 8, .inl (upd t_images (Int32.toNatClampNeg (((4 : Int32) * v1) + v2)) (t_state (Int32.toNatClampNeg v2))))), (h_t_isKept, .inl (cZ, 2, .inl t_isKept))] := hD
        obtain ⟨v2_6, ev2_6⟩ : ∃ z : Int32, z = v2 + 1 := ⟨_, rfl⟩
        have hM := on_letE ev2_6 hM
        refine lv_iinc (v := v2_6) (lv' := [(2, .int v2_6), (0, .ref h_t), (1, .int v1)]) hx hb dX6_image_35 hl (k := 2) rfl (by rw [ev2_6]; rfl) (by decide) rfl (fun ls hl => ?_)
        refine lv_goto (tgt := 14) hx hb dX6_image_38 (by decide) ?_
        have hk := on_nxL hM hk
        exact ih v2_6 (upd t_images (Int32.toNatClampNeg (((4 : Int32) * v1) + v2)) (t_state (Int32.toNatClampNeg v2))) _ hk K1 _ _ hP hD hS ls (lv_sub hl [1, 2, 0] rfl)
  refine lv_iload_n hx hb dX6_image_0 rfl (lv_at hl 1 rfl) ?_
  refine lv_iconst (v := 0) hx hb dX6_image_1 (by decide) ?_
  refine lv_iconst (v := 1) hx hb dX6_image_2 (by decide) ?_
  obtain ⟨q_1, hq_1, hM⟩ := on_bind hM
  refine on_callS0 (rest := []) (As := [.int v1, .int (0 : Int32), .int (1 : Int32)]) (st1 := [.int q_1]) ⟨hx, hb, hml, hown, hts⟩ (k_X6_in v1 (0 : Int32) (1 : Int32) q_1 hq_1) (va_cwS 3 hts gX6_image_X6_in rfl rfl rfl hdX6_in ⟨(Nat.le_of_ble_eq_true rfl), (Nat.le_of_ble_eq_true rfl)⟩) hK hN hP hD hS hA rfl hl.1 rfl (Nat.le_of_ble_eq_true rfl) rfl dX6_image_3 ⟨Nat.zero_le _, Nat.zero_le _⟩ (fun H locs hP hS => ?_)
  refine lv_if_ne (tgt := 12) hx hb dX6_image_6 (by decide) (fun c_2 => ?_) (fun c_2 => ?_)
  · have hM := on_neg c_2 hM
    refine lv_iconst (v := 0) hx hb dX6_image_12 (by decide) ?_
    refine lv_istore_n (lv' := [(2, .int (0 : Int32)), (0, .ref h_t), (1, .int v1)]) hx hb dX6_image_13 rfl hl (by decide) rfl (fun ls hl => ?_)
    obtain ⟨q_7, hq_7, hM⟩ := on_bind hM
    refine lp_14 v1 t_isKept on_F (0 : Int32) t_images q_7 hq_7 (fun H locs hP hD hS ls hl => ?_) H locs hP hD hS ls (lv_sub hl [1, 2, 0] rfl)
    refine lv_aload_n hx hb dX6_image_41 rfl (lv_at hl 0 rfl) ?_
    refine va_get (D := D) (ci := 6) (v := .ref h_t_isKept) (C := RX6) (T := TX6) (N := 13) hx hb hts w2 hown hK hP 0 rfl rfl 2 (by decide) w4 (fun _ h9 => h9) rfl dX6_image_42 ?_
    refine lv_iload_n hx hb dX6_image_45 rfl (lv_at hl 1 rfl) ?_
    refine lv_iconst (v := 1) hx hb dX6_image_46 (by decide) ?_
    obtain ⟨g_8, hM⟩ := on_gdE hM
    refine va_zast hx hb hK hP hD hS 3 2 rfl rfl (on_ixE g_8) dX6_image_47 (fun H locs hP hD hS => ?_)
    have hP : va_P D vwCl [(h_t, .inr (6, [.ref h_t_state, .ref h_t_images, .ref h_t_isKept, .ref h_t_pad, .int t_said, .int t_leastSize, .int t_leastSet, .int t_found, .ref h_t_row, .ref h_t_isUsed, .ref h_t_table, .int t_rank, .long t_determinant])), (h_t_state, .inl (cI, 4, .inl t_state)), (h_t_images, .inl (cI, 8, .inl q_7)), (h_t_isKept, .inl (cZ, 2, .inl (upd t_isKept (Int32.toNatClampNeg v1) (vp_nar .boolean (1 : Int32)))))] H := hP
    have hD : va_D A [(h_t, .inr (6, [.ref h_t_state, .ref h_t_images, .ref h_t_isKept, .ref h_t_pad, .int t_said, .int t_leastSize, .int t_leastSet, .int t_found, .ref h_t_row, .ref h_t_isUsed, .ref h_t_table, .int t_rank, .long t_determinant])), (h_t_state, .inl (cI, 4, .inl t_state)), (h_t_images, .inl (cI, 8, .inl q_7)), (h_t_isKept, .inl (cZ, 2, .inl (upd t_isKept (Int32.toNatClampNeg v1) (vp_nar .boolean (1 : Int32)))))] := hD
    refine lv_iconst (v := 1) hx hb dX6_image_48 (by decide) ?_
    have hM := Option.some.inj hM
    subst hM
    rw [← hQ]
    exact on_iret hx hb hr hlk hP hD hS dX6_image_49
  · have hM := on_pos c_2 hM
    refine lv_bipush (v := -2) hx hb dX6_image_9 (by decide) ?_
    have hM := Option.some.inj hM
    subst hM
    rw [← hQ]
    exact on_iret hx hb hr hlk hP hD hS dX6_image_11
abbrev rm_X6_restore : Room := { frames := 1, cells := 0, slots := 0, locals := 22 }
set_option maxHeartbeats 4000000 in
set_option maxRecDepth 100000 in
theorem k_X6_restore {l : Launch} {D : va_G} {cI cJ cZ cS cA : ClassId} (h_t : Nat) (h_t_state : Nat) (h_t_images : Nat) (h_t_isKept : Nat) (h_t_pad : Nat) (h_t_row : Nat) (h_t_isUsed : Nat) (h_t_table : Nat) (t_said : Int32) (t_leastSize : Int32) (t_leastSet : Int32) (t_found : Int32) (t_rank : Int32) (t_determinant : Int64) (t_state : Nat → Int32) (t_images : Nat → Int32) (t_isKept : Nat → Int32) (v1 : Int32) (out : Int32 × (Nat → Int32)) (hM : M_X6_restore v1 t_state t_images t_isKept = some out) : on_Con l yX6_restore wsX6_restore rm_X6_restore [.ref h_t, .int v1] D (on_T cI cJ cZ cS cA) [(h_t, .inr (6, [.ref h_t_state, .ref h_t_images, .ref h_t_isKept, .ref h_t_pad, .int t_said, .int t_leastSize, .int t_leastSet, .int t_found, .ref h_t_row, .ref h_t_isUsed, .ref h_t_table, .int t_rank, .long t_determinant])), (h_t_state, .inl (cI, 4, .inl t_state)), (h_t_images, .inl (cI, 8, .inl t_images)), (h_t_isKept, .inl (cZ, 2, .inl t_isKept))] (some (.int out.1)) [(h_t, .inr (6, [.ref h_t_state, .ref h_t_images, .ref h_t_isKept, .ref h_t_pad, .int t_said, .int t_leastSize, .int t_leastSet, .int t_found, .ref h_t_row, .ref h_t_isUsed, .ref h_t_table, .int t_rank, .long t_determinant])), (h_t_state, .inl (cI, 4, .inl out.2)), (h_t_images, .inl (cI, 8, .inl t_images)), (h_t_isKept, .inl (cZ, 2, .inl t_isKept))] := by
  unfold M_X6_restore at hM
  refine on_enter (cc := cX6_restore) (nL := 3) (rt := (some .int)) (own := RX6) (by decide +kernel) rfl rfl (Nat.le_of_ble_eq_true rfl) ?_
  intro p e s m below meth c A ls hx hb hml hr hlk hts hown hA hK hN H locs hP hD hS hl
  have hl : lv_has ls 3 [(0, .ref h_t), (1, .int v1)] := hl
  generalize hQ : MQ below (on_Q D (some (.int out.1)) [(h_t, .inr (6, [.ref h_t_state, .ref h_t_images, .ref h_t_isKept, .ref h_t_pad, .int t_said, .int t_leastSize, .int t_leastSet, .int t_found, .ref h_t_row, .ref h_t_isUsed, .ref h_t_table, .int t_rank, .long t_determinant])), (h_t_state, .inl (cI, 4, .inl out.2)), (h_t_images, .inl (cI, 8, .inl t_images)), (h_t_isKept, .inl (cZ, 2, .inl t_isKept))] A) _ s 0 0 A = Q
  generalize hAr : List.toArray ([.ref h_t, .int v1] : List Value) = args at hts hQ ⊢
  have w1 := hts (.fieldLink RX6 16 "OddNetsModel" "isKept" "[Z") (by decide +kernel)
  have w2 : ∀ w ∈ wsX60, w ∈ wsX6_restore := by decide +kernel
  have w3 := hts (.fieldLink RX6 7 "OddNetsModel" "state" "[I") (by decide +kernel)
  have w4 := hts (.fieldLink RX6 13 "OddNetsModel" "images" "[I") (by decide +kernel)
  have lp_26 : ∀ (v1 : Int32), ∀ (n : Nat) (v2 : Int32) (t_state : Nat → Int32) (x : (Nat → Int32)), on_loop (fun (s : Int32 × (Nat → Int32)) => B_X6_restore_26 v1 t_images s.1 s.2) n (v2, t_state) = some x → (∀ (H : Heap) (locs : List Loc), va_P D vwCl [(h_t, .inr (6, [.ref h_t_state, .ref h_t_images, .ref h_t_isKept, .ref h_t_pad, .int t_said, .int t_leastSize, .int t_leastSet, .int t_found, .ref h_t_row, .ref h_t_isUsed, .ref h_t_table, .int t_rank, .long t_determinant])), (h_t_state, .inl (cI, 4, .inl x)), (h_t_images, .inl (cI, 8, .inl t_images)), (h_t_isKept, .inl (cZ, 2, .inl t_isKept))] H → va_D A [(h_t, .inr (6, [.ref h_t_state, .ref h_t_images, .ref h_t_isKept, .ref h_t_pad, .int t_said, .int t_leastSize, .int t_leastSet, .int t_found, .ref h_t_row, .ref h_t_isUsed, .ref h_t_table, .int t_rank, .long t_determinant])), (h_t_state, .inl (cI, 4, .inl x)), (h_t_images, .inl (cI, 8, .inl t_images)), (h_t_isKept, .inl (cZ, 2, .inl t_isKept))] → va_S A s.heap H locs → ∀ ls : Array Slot, lv_has ls 3 [] → W p l e rm_X6_restore s m args below meth c H locs 0 0 Q (F0 m 53 ls [])) → ∀ (H : Heap) (locs : List Loc), va_P D vwCl [(h_t, .inr (6, [.ref h_t_state, .ref h_t_images, .ref h_t_isKept, .ref h_t_pad, .int t_said, .int t_leastSize, .int t_leastSet, .int t_found, .ref h_t_row, .ref h_t_isUsed, .ref h_t_table, .int t_rank, .long t_determinant])), (h_t_state, .inl (cI, 4, .inl t_state)), (h_t_images, .inl (cI, 8, .inl t_images)), (h_t_isKept, .inl (cZ, 2, .inl t_isKept))] H → va_D A [(h_t, .inr (6, [.ref h_t_state, .ref h_t_images, .ref h_t_isKept, .ref h_t_pad, .int t_said, .int t_leastSize, .int t_leastSet, .int t_found, .ref h_t_row, .ref h_t_isUsed, .ref h_t_table, .int t_rank, .long t_determinant])), (h_t_state, .inl (cI, 4, .inl t_state)), (h_t_images, .inl (cI, 8, .inl t_images)), (h_t_isKept, .inl (cZ, 2, .inl t_isKept))] → va_S A s.heap H locs → ∀ ls : Array Slot, lv_has ls 3 [(0, .ref h_t), (1, .int v1), (2, .int v2)] → W p l e rm_X6_restore s m args below meth c H locs 0 0 Q (F0 m 26 ls []) := by
    intro v1
    intro n
    induction n with
    | zero =>
      intro v2 t_state x hL
      exact (on_loop0 hL).elim
    | succ n ih =>
      intro v2 t_state x hL K1 H locs hP hD hS ls hl
      obtain ⟨y, hM, hk⟩ := on_loopE hL
      have hM : B_X6_restore_26 v1 t_images v2 t_state = some y := hM
      unfold B_X6_restore_26 at hM
      refine lv_iload_n hx hb dX6_restore_26 rfl (lv_at hl 2 rfl) ?_
      refine lv_iconst (v := 4) hx hb dX6_restore_27 (by decide) ?_
      refine lv_icmp_ge (tgt := 53) hx hb dX6_restore_28 (by decide) (fun c_5 => ?_) (fun c_5 => ?_)
      · have hM := on_pos c_5 hM
        have hk := on_nxR hM hk
        subst hk
        exact K1 _ _ hP hD hS ls (lv_sub hl [] rfl)
      · have hM := on_neg c_5 hM
        refine lv_aload_n hx hb dX6_restore_31 rfl (lv_at hl 0 rfl) ?_
        refine va_get (D := D) (ci := 6) (v := .ref h_t_state) (C := RX6) (T := TX6) (N := 13) hx hb hts w2 hown hK hP 0 rfl rfl 0 (by decide) w3 (fun _ h9 => h9) rfl dX6_restore_32 ?_
        refine lv_iload_n hx hb dX6_restore_35 rfl (lv_at hl 2 rfl) ?_
        refine lv_aload_n hx hb dX6_restore_36 rfl (lv_at hl 0 rfl) ?_
        refine va_get (D := D) (ci := 6) (v := .ref h_t_images) (C := RX6) (T := TX6) (N := 13) hx hb hts w2 hown hK hP 0 rfl rfl 1 (by decide) w4 (fun _ h9 => h9) rfl dX6_restore_37 ?_
        refine lv_iconst (v := 4) hx hb dX6_restore_40 (by decide) ?_
        refine lv_iload_n hx hb dX6_restore_41 rfl (lv_at hl 1 rfl) ?_
        refine lv_imul hx hb dX6_restore_42 ?_
        refine lv_iload_n hx hb dX6_restore_43 rfl (lv_at hl 2 rfl) ?_
        refine lv_iadd hx hb dX6_restore_44 ?_
        obtain ⟨g_6, hM⟩ := on_gdE hM
        refine va_iald hx hb hK hP 2 0 rfl rfl (on_ixE g_6) dX6_restore_45 ?_
        obtain ⟨g_7, hM⟩ := on_gdE hM
        refine va_iast hx hb hK hP hD hS 1 0 rfl rfl (on_ixE g_7) dX6_restore_46 (fun H locs hP hD hS => ?_)
        have hP : va_P D vwCl [(h_t, .inr (6, [.ref h_t_state, .ref h_t_images, .ref h_t_isKept, .ref h_t_pad, .int t_said, .int t_leastSize, .int t_leastSet, .int t_found, .ref h_t_row, .ref h_t_isUsed, .ref h_t_table, .int t_rank, .long t_determinant])), (h_t_state, .inl (cI, 4, .inl (upd t_state (Int32.toNatClampNeg v2) (t_images (Int32.toNatClampNeg (((4 : Int32) * v1) + v2)))))), (h_t_images, .inl (cI, 8, .inl t_images)), (h_t_isKept, .inl (cZ, 2, .inl t_isKept))] H := hP
        have hD : va_D A [(h_t, .inr (6, [.ref h_t_state, .ref h_t_images, .ref h_t_isKept, .ref h_t_pad, .int t_said, .int t_leastSize, .int t_leastSet, .int t_found, .ref h_t_row, .ref h_t_isUsed, .ref h_t_table, .int t_rank, .long t_determinant])), (h_t_state, .inl (cI, 4, .inl (upd t_state (Int32.toNatClampNeg v2) (t_images (Int32.toNatClampNeg (((4 : Int32) * v1) + v2)))))), (h_t_images, .inl (cI, 8, .inl t_images)), (h_t_isKept, .inl (cZ, 2, .inl t_isKept))] := hD
        obtain ⟨v2_8, ev2_8⟩ : ∃ z : Int32, z = v2 + 1 := ⟨_, rfl⟩
        have hM := on_letE ev2_8 hM
        refine lv_iinc (v := v2_8) (lv' := [(2, .int v2_8), (0, .ref h_t), (1, .int v1)]) hx hb dX6_restore_47 hl (k := 2) rfl (by rw [ev2_8]; rfl) (by decide) rfl (fun ls hl => ?_)
        refine lv_goto (tgt := 26) hx hb dX6_restore_50 (by decide) ?_
        have hk := on_nxL hM hk
        exact ih v2_8 (upd t_state (Int32.toNatClampNeg v2) (t_images (Int32.toNatClampNeg (((4 : Int32) * v1) + v2)))) _ hk K1 _ _ hP hD hS ls (lv_sub hl [1, 2, 0] rfl)
  refine lv_iload_n hx hb dX6_restore_0 rfl (lv_at hl 1 rfl) ?_
  refine lv_iconst (v := 0) hx hb dX6_restore_1 (by decide) ?_
  refine lv_iconst (v := 1) hx hb dX6_restore_2 (by decide) ?_
  obtain ⟨q_1, hq_1, hM⟩ := on_bind hM
  refine on_callS0 (rest := []) (As := [.int v1, .int (0 : Int32), .int (1 : Int32)]) (st1 := [.int q_1]) ⟨hx, hb, hml, hown, hts⟩ (k_X6_in v1 (0 : Int32) (1 : Int32) q_1 hq_1) (va_cwS 3 hts gX6_restore_X6_in rfl rfl rfl hdX6_in ⟨(Nat.le_of_ble_eq_true rfl), (Nat.le_of_ble_eq_true rfl)⟩) hK hN hP hD hS hA rfl hl.1 rfl (Nat.le_of_ble_eq_true rfl) rfl dX6_restore_3 ⟨Nat.zero_le _, Nat.zero_le _⟩ (fun H locs hP hS => ?_)
  refine lv_if_ne (tgt := 12) hx hb dX6_restore_6 (by decide) (fun c_2 => ?_) (fun c_2 => ?_)
  · have hM := on_neg c_2 hM
    refine lv_aload_n hx hb dX6_restore_12 rfl (lv_at hl 0 rfl) ?_
    refine va_get (D := D) (ci := 6) (v := .ref h_t_isKept) (C := RX6) (T := TX6) (N := 13) hx hb hts w2 hown hK hP 0 rfl rfl 2 (by decide) w1 (fun _ h9 => h9) rfl dX6_restore_13 ?_
    refine lv_iload_n hx hb dX6_restore_16 rfl (lv_at hl 1 rfl) ?_
    obtain ⟨g_3, hM⟩ := on_gdE hM
    refine va_zald hx hb hK hP 3 2 rfl rfl (on_ixE g_3) dX6_restore_17 ?_
    refine lv_if_ne (tgt := 24) hx hb dX6_restore_18 (by decide) (fun c_4 => ?_) (fun c_4 => ?_)
    · have hM := on_neg c_4 hM
      refine lv_iconst (v := 0) hx hb dX6_restore_24 (by decide) ?_
      refine lv_istore_n (lv' := [(2, .int (0 : Int32)), (0, .ref h_t), (1, .int v1)]) hx hb dX6_restore_25 rfl hl (by decide) rfl (fun ls hl => ?_)
      obtain ⟨q_9, hq_9, hM⟩ := on_bind hM
      refine lp_26 v1 on_F (0 : Int32) t_state q_9 hq_9 (fun H locs hP hD hS ls hl => ?_) H locs hP hD hS ls (lv_sub hl [1, 2, 0] rfl)
      refine lv_iconst (v := 1) hx hb dX6_restore_53 (by decide) ?_
      have hM := Option.some.inj hM
      subst hM
      rw [← hQ]
      exact on_iret hx hb hr hlk hP hD hS dX6_restore_54
    · have hM := on_pos c_4 hM
      refine lv_bipush (v := -3) hx hb dX6_restore_21 (by decide) ?_
      have hM := Option.some.inj hM
      subst hM
      rw [← hQ]
      exact on_iret hx hb hr hlk hP hD hS dX6_restore_23
  · have hM := on_pos c_2 hM
    refine lv_bipush (v := -2) hx hb dX6_restore_9 (by decide) ?_
    have hM := Option.some.inj hM
    subst hM
    rw [← hQ]
    exact on_iret hx hb hr hlk hP hD hS dX6_restore_11
abbrev rm_X6_classes : Room := { frames := 6, cells := 0, slots := 0, locals := 142 }
set_option maxHeartbeats 4000000 in
set_option maxRecDepth 100000 in
theorem k_X6_classes {l : Launch} {D : va_G} {cI cJ cZ cS cA : ClassId} (h_t : Nat) (h_t_state : Nat) (h_t_images : Nat) (h_t_isKept : Nat) (h_t_pad : Nat) (h_t_row : Nat) (h_t_isUsed : Nat) (h_t_table : Nat) (t_said : Int32) (t_leastSize : Int32) (t_leastSet : Int32) (t_found : Int32) (t_rank : Int32) (t_determinant : Int64) (t_state : Nat → Int32) (t_row : Nat → Int32) (t_isUsed : Nat → Int32) (v1 : Int32) (out : Int32 × (Nat → Int32) × (Nat → Int32)) (hM : M_X6_classes v1 t_state t_row t_isUsed = some out) : on_Con l yX6_classes wsX6_classes rm_X6_classes [.ref h_t, .int v1] D (on_T cI cJ cZ cS cA) [(h_t, .inr (6, [.ref h_t_state, .ref h_t_images, .ref h_t_isKept, .ref h_t_pad, .int t_said, .int t_leastSize, .int t_leastSet, .int t_found, .ref h_t_row, .ref h_t_isUsed, .ref h_t_table, .int t_rank, .long t_determinant])), (h_t_state, .inl (cI, 4, .inl t_state)), (h_t_row, .inl (cI, 7, .inl t_row)), (h_t_isUsed, .inl (cZ, 7, .inl t_isUsed))] (some (.int out.1)) [(h_t, .inr (6, [.ref h_t_state, .ref h_t_images, .ref h_t_isKept, .ref h_t_pad, .int t_said, .int t_leastSize, .int t_leastSet, .int t_found, .ref h_t_row, .ref h_t_isUsed, .ref h_t_table, .int t_rank, .long t_determinant])), (h_t_state, .inl (cI, 4, .inl t_state)), (h_t_row, .inl (cI, 7, .inl out.2.1)), (h_t_isUsed, .inl (cZ, 7, .inl out.2.2))] := by
  unfold M_X6_classes at hM
  refine on_enter (cc := cX6_classes) (nL := 6) (rt := (some .int)) (own := RX6) (by decide +kernel) rfl rfl (Nat.le_of_ble_eq_true rfl) ?_
  intro p e s m below meth c A ls hx hb hml hr hlk hts hown hA hK hN H locs hP hD hS hl
  have hl : lv_has ls 6 [(0, .ref h_t), (1, .int v1)] := hl
  generalize hQ : MQ below (on_Q D (some (.int out.1)) [(h_t, .inr (6, [.ref h_t_state, .ref h_t_images, .ref h_t_isKept, .ref h_t_pad, .int t_said, .int t_leastSize, .int t_leastSet, .int t_found, .ref h_t_row, .ref h_t_isUsed, .ref h_t_table, .int t_rank, .long t_determinant])), (h_t_state, .inl (cI, 4, .inl t_state)), (h_t_row, .inl (cI, 7, .inl out.2.1)), (h_t_isUsed, .inl (cZ, 7, .inl out.2.2))] A) _ s 0 0 A = Q
  generalize hAr : List.toArray ([.ref h_t, .int v1] : List Value) = args at hts hQ ⊢
  have lp_15 : ∀ (v1 : Int32) (v2 : Int32) (v3 : Int32), ∀ (n : Nat) (v4 : Int32) (v5 : Int32) (t_row : Nat → Int32) (t_isUsed : Nat → Int32) (x : Int32 × (Nat → Int32) × (Nat → Int32)), on_loop (fun (s : Int32 × Int32 × (Nat → Int32) × (Nat → Int32)) => B_X6_classes_15 v1 v3 t_state s.1 s.2.1 s.2.2.1 s.2.2.2) n (v4, v5, t_row, t_isUsed) = some x → (∀ (H : Heap) (locs : List Loc), va_P D vwCl [(h_t, .inr (6, [.ref h_t_state, .ref h_t_images, .ref h_t_isKept, .ref h_t_pad, .int t_said, .int t_leastSize, .int t_leastSet, .int t_found, .ref h_t_row, .ref h_t_isUsed, .ref h_t_table, .int t_rank, .long t_determinant])), (h_t_state, .inl (cI, 4, .inl t_state)), (h_t_row, .inl (cI, 7, .inl x.2.1)), (h_t_isUsed, .inl (cZ, 7, .inl x.2.2))] H → va_D A [(h_t, .inr (6, [.ref h_t_state, .ref h_t_images, .ref h_t_isKept, .ref h_t_pad, .int t_said, .int t_leastSize, .int t_leastSet, .int t_found, .ref h_t_row, .ref h_t_isUsed, .ref h_t_table, .int t_rank, .long t_determinant])), (h_t_state, .inl (cI, 4, .inl t_state)), (h_t_row, .inl (cI, 7, .inl x.2.1)), (h_t_isUsed, .inl (cZ, 7, .inl x.2.2))] → va_S A s.heap H locs → ∀ ls : Array Slot, lv_has ls 6 [(0, .ref h_t), (1, .int v1), (2, .int v2), (3, .int v3), (4, .int x.1)] → W p l e rm_X6_classes s m args below meth c H locs 0 0 Q (F0 m 87 ls [])) → ∀ (H : Heap) (locs : List Loc), va_P D vwCl [(h_t, .inr (6, [.ref h_t_state, .ref h_t_images, .ref h_t_isKept, .ref h_t_pad, .int t_said, .int t_leastSize, .int t_leastSet, .int t_found, .ref h_t_row, .ref h_t_isUsed, .ref h_t_table, .int t_rank, .long t_determinant])), (h_t_state, .inl (cI, 4, .inl t_state)), (h_t_row, .inl (cI, 7, .inl t_row)), (h_t_isUsed, .inl (cZ, 7, .inl t_isUsed))] H → va_D A [(h_t, .inr (6, [.ref h_t_state, .ref h_t_images, .ref h_t_isKept, .ref h_t_pad, .int t_said, .int t_leastSize, .int t_leastSet, .int t_found, .ref h_t_row, .ref h_t_isUsed, .ref h_t_table, .int t_rank, .long t_determinant])), (h_t_state, .inl (cI, 4, .inl t_state)), (h_t_row, .inl (cI, 7, .inl t_row)), (h_t_isUsed, .inl (cZ, 7, .inl t_isUsed))] → va_S A s.heap H locs → ∀ ls : Array Slot, lv_has ls 6 [(0, .ref h_t), (1, .int v1), (2, .int v2), (3, .int v3), (4, .int v4), (5, .int v5)] → W p l e rm_X6_classes s m args below meth c H locs 0 0 Q (F0 m 15 ls []) := by
    intro v1 v2 v3
    intro n
    induction n with
    | zero =>
      intro v4 v5 t_row t_isUsed x hL
      exact (on_loop0 hL).elim
    | succ n ih =>
      intro v4 v5 t_row t_isUsed x hL K1 H locs hP hD hS ls hl
      obtain ⟨y, hM, hk⟩ := on_loopE hL
      have hM : B_X6_classes_15 v1 v3 t_state v4 v5 t_row t_isUsed = some y := hM
      unfold B_X6_classes_15 at hM
      refine lv_iload hx hb dX6_classes_15 (lv_at hl 5 rfl) ?_
      refine lv_iload_n hx hb dX6_classes_17 rfl (lv_at hl 3 rfl) ?_
      refine lv_icmp_ge (tgt := 87) hx hb dX6_classes_18 (by decide) (fun c_2 => ?_) (fun c_2 => ?_)
      · have hM := on_pos c_2 hM
        have hk := on_nxR hM hk
        subst hk
        exact K1 _ _ hP hD hS ls (lv_sub hl [0, 1, 2, 3, 4] rfl)
      · have hM := on_neg c_2 hM
        refine lv_iload hx hb dX6_classes_21 (lv_at hl 4 rfl) ?_
        refine lv_if_eq (tgt := 78) hx hb dX6_classes_23 (by decide) (fun c_3 => ?_) (fun c_3 => ?_)
        · have hM := on_pos c_3 hM
          refine lv_iconst (v := 0) hx hb dX6_classes_78 (by decide) ?_
          refine lv_istore (lv' := [(4, .int (0 : Int32)), (0, .ref h_t), (1, .int v1), (2, .int v2), (3, .int v3), (5, .int v5)]) hx hb dX6_classes_79 hl (by decide) rfl (fun ls hl => ?_)
          obtain ⟨v5_4, ev5_4⟩ : ∃ z : Int32, z = v5 + 1 := ⟨_, rfl⟩
          have hM := on_letE ev5_4 hM
          refine lv_iinc (v := v5_4) (lv' := [(5, .int v5_4), (4, .int (0 : Int32)), (0, .ref h_t), (1, .int v1), (2, .int v2), (3, .int v3)]) hx hb dX6_classes_81 hl (k := 5) rfl (by rw [ev5_4]; rfl) (by decide) rfl (fun ls hl => ?_)
          refine lv_goto (tgt := 15) hx hb dX6_classes_84 (by decide) ?_
          have hk := on_nxL hM hk
          exact ih (0 : Int32) v5_4 t_row t_isUsed _ hk K1 _ _ hP hD hS ls (lv_sub hl [2, 3, 4, 5, 1, 0] rfl)
        · have hM := on_neg c_3 hM
          refine lv_iload_n hx hb dX6_classes_26 rfl (lv_at hl 1 rfl) ?_
          refine lv_if_eq (tgt := 56) hx hb dX6_classes_27 (by decide) (fun c_5 => ?_) (fun c_5 => ?_)
          · have hM := on_pos c_5 hM
            refine lv_aload_n hx hb dX6_classes_56 rfl (lv_at hl 0 rfl) ?_
            refine lv_aload_n hx hb dX6_classes_57 rfl (lv_at hl 0 rfl) ?_
            refine lv_iload_n hx hb dX6_classes_58 rfl (lv_at hl 3 rfl) ?_
            obtain ⟨q_6, hq_6, hM⟩ := on_bind hM
            refine on_callV (rest := [.ref h_t]) (As := [.int v3]) (st1 := [.int q_6, .ref h_t]) (C := RX6) (ci := 6) (q0 := 0) (wc := [(h_t, .inr (6, [.ref h_t_state, .ref h_t_images, .ref h_t_isKept, .ref h_t_pad, .int t_said, .int t_leastSize, .int t_leastSet, .int t_found, .ref h_t_row, .ref h_t_isUsed, .ref h_t_table, .int t_rank, .long t_determinant])), (h_t_state, .inl (cI, 4, .inl t_state))]) (wr := [(h_t_row, .inl (cI, 7, .inl t_row)), (h_t_isUsed, .inl (cZ, 7, .inl t_isUsed))]) (wc' := [(h_t, .inr (6, [.ref h_t_state, .ref h_t_images, .ref h_t_isKept, .ref h_t_pad, .int t_said, .int t_leastSize, .int t_leastSet, .int t_found, .ref h_t_row, .ref h_t_isUsed, .ref h_t_table, .int t_rank, .long t_determinant])), (h_t_state, .inl (cI, 4, .inl t_state))]) (wf := [(h_t, .inr (6, [.ref h_t_state, .ref h_t_images, .ref h_t_isKept, .ref h_t_pad, .int t_said, .int t_leastSize, .int t_leastSet, .int t_found, .ref h_t_row, .ref h_t_isUsed, .ref h_t_table, .int t_rank, .long t_determinant])), (h_t_state, .inl (cI, 4, .inl t_state)), (h_t_row, .inl (cI, 7, .inl t_row)), (h_t_isUsed, .inl (cZ, 7, .inl t_isUsed))]) (rt := (some (.int q_6))) ⟨hx, hb, hml, hown, hts⟩ (k_X6_netOf h_t h_t_state h_t_images h_t_isKept h_t_pad h_t_row h_t_isUsed h_t_table t_said t_leastSize t_leastSet t_found t_rank t_determinant t_state v3 q_6 hq_6) (cwV 1 hts gX6_classes_X6_netOf rfl rfl rfl ⟨rfl, hdX6_netOf⟩ ⟨(Nat.le_of_ble_eq_true rfl), (Nat.le_of_ble_eq_true rfl)⟩) hK hN hP hD hS hA [0, 1] [2, 3] [2, 3, 0, 1] rfl rfl rfl rfl (by decide) rfl rfl rfl rfl rfl rfl hl.1 rfl (Nat.le_of_ble_eq_true rfl) rfl dX6_classes_59 ⟨Nat.zero_le _, Nat.zero_le _⟩ (fun H locs hP hD hS => ?_)
            refine lv_aload_n hx hb dX6_classes_62 rfl (lv_at hl 0 rfl) ?_
            refine lv_iload hx hb dX6_classes_63 (lv_at hl 5 rfl) ?_
            obtain ⟨q_7, hq_7, hM⟩ := on_bind hM
            refine on_callV (rest := [.int q_6, .ref h_t]) (As := [.int v5]) (st1 := [.int q_7, .int q_6, .ref h_t]) (C := RX6) (ci := 6) (q0 := 0) (wc := [(h_t, .inr (6, [.ref h_t_state, .ref h_t_images, .ref h_t_isKept, .ref h_t_pad, .int t_said, .int t_leastSize, .int t_leastSet, .int t_found, .ref h_t_row, .ref h_t_isUsed, .ref h_t_table, .int t_rank, .long t_determinant])), (h_t_state, .inl (cI, 4, .inl t_state))]) (wr := [(h_t_row, .inl (cI, 7, .inl t_row)), (h_t_isUsed, .inl (cZ, 7, .inl t_isUsed))]) (wc' := [(h_t, .inr (6, [.ref h_t_state, .ref h_t_images, .ref h_t_isKept, .ref h_t_pad, .int t_said, .int t_leastSize, .int t_leastSet, .int t_found, .ref h_t_row, .ref h_t_isUsed, .ref h_t_table, .int t_rank, .long t_determinant])), (h_t_state, .inl (cI, 4, .inl t_state))]) (wf := [(h_t, .inr (6, [.ref h_t_state, .ref h_t_images, .ref h_t_isKept, .ref h_t_pad, .int t_said, .int t_leastSize, .int t_leastSet, .int t_found, .ref h_t_row, .ref h_t_isUsed, .ref h_t_table, .int t_rank, .long t_determinant])), (h_t_state, .inl (cI, 4, .inl t_state)), (h_t_row, .inl (cI, 7, .inl t_row)), (h_t_isUsed, .inl (cZ, 7, .inl t_isUsed))]) (rt := (some (.int q_7))) ⟨hx, hb, hml, hown, hts⟩ (k_X6_netOf h_t h_t_state h_t_images h_t_isKept h_t_pad h_t_row h_t_isUsed h_t_table t_said t_leastSize t_leastSet t_found t_rank t_determinant t_state v5 q_7 hq_7) (cwV 1 hts gX6_classes_X6_netOf rfl rfl rfl ⟨rfl, hdX6_netOf⟩ ⟨(Nat.le_of_ble_eq_true rfl), (Nat.le_of_ble_eq_true rfl)⟩) hK hN hP hD hS hA [0, 1] [2, 3] [2, 3, 0, 1] rfl rfl rfl rfl (by decide) rfl rfl rfl rfl rfl rfl hl.1 rfl (Nat.le_of_ble_eq_true rfl) rfl dX6_classes_65 ⟨Nat.zero_le _, Nat.zero_le _⟩ (fun H locs hP hD hS => ?_)
            obtain ⟨q_8, hq_8, hM⟩ := on_bind hM
            refine on_callV (rest := []) (As := [.int q_6, .int q_7]) (st1 := [.int q_8]) (C := RX6) (ci := 6) (q0 := 0) (wc := [(h_t, .inr (6, [.ref h_t_state, .ref h_t_images, .ref h_t_isKept, .ref h_t_pad, .int t_said, .int t_leastSize, .int t_leastSet, .int t_found, .ref h_t_row, .ref h_t_isUsed, .ref h_t_table, .int t_rank, .long t_determinant])), (h_t_state, .inl (cI, 4, .inl t_state))]) (wr := [(h_t_row, .inl (cI, 7, .inl t_row)), (h_t_isUsed, .inl (cZ, 7, .inl t_isUsed))]) (wc' := [(h_t, .inr (6, [.ref h_t_state, .ref h_t_images, .ref h_t_isKept, .ref h_t_pad, .int t_said, .int t_leastSize, .int t_leastSet, .int t_found, .ref h_t_row, .ref h_t_isUsed, .ref h_t_table, .int t_rank, .long t_determinant])), (h_t_state, .inl (cI, 4, .inl t_state))]) (wf := [(h_t, .inr (6, [.ref h_t_state, .ref h_t_images, .ref h_t_isKept, .ref h_t_pad, .int t_said, .int t_leastSize, .int t_leastSet, .int t_found, .ref h_t_row, .ref h_t_isUsed, .ref h_t_table, .int t_rank, .long t_determinant])), (h_t_state, .inl (cI, 4, .inl t_state)), (h_t_row, .inl (cI, 7, .inl t_row)), (h_t_isUsed, .inl (cZ, 7, .inl t_isUsed))]) (rt := (some (.int q_8))) ⟨hx, hb, hml, hown, hts⟩ (k_X6_setBetween h_t h_t_state h_t_images h_t_isKept h_t_pad h_t_row h_t_isUsed h_t_table t_said t_leastSize t_leastSet t_found t_rank t_determinant t_state q_6 q_7 q_8 hq_8) (cwV 2 hts gX6_classes_X6_setBetween rfl rfl rfl ⟨rfl, hdX6_setBetween⟩ ⟨(Nat.le_of_ble_eq_true rfl), (Nat.le_of_ble_eq_true rfl)⟩) hK hN hP hD hS hA [0, 1] [2, 3] [2, 3, 0, 1] rfl rfl rfl rfl (by decide) rfl rfl rfl rfl rfl rfl hl.1 rfl (Nat.le_of_ble_eq_true rfl) rfl dX6_classes_68 ⟨Nat.zero_le _, Nat.zero_le _⟩ (fun H locs hP hD hS => ?_)
            refine lv_if_ge (tgt := 78) hx hb dX6_classes_71 (by decide) (fun c_9 => ?_) (fun c_9 => ?_)
            · have hM := on_pos c_9 hM
              refine lv_iconst (v := 0) hx hb dX6_classes_78 (by decide) ?_
              refine lv_istore (lv' := [(4, .int (0 : Int32)), (0, .ref h_t), (1, .int v1), (2, .int v2), (3, .int v3), (5, .int v5)]) hx hb dX6_classes_79 hl (by decide) rfl (fun ls hl => ?_)
              obtain ⟨v5_10, ev5_10⟩ : ∃ z : Int32, z = v5 + 1 := ⟨_, rfl⟩
              have hM := on_letE ev5_10 hM
              refine lv_iinc (v := v5_10) (lv' := [(5, .int v5_10), (4, .int (0 : Int32)), (0, .ref h_t), (1, .int v1), (2, .int v2), (3, .int v3)]) hx hb dX6_classes_81 hl (k := 5) rfl (by rw [ev5_10]; rfl) (by decide) rfl (fun ls hl => ?_)
              refine lv_goto (tgt := 15) hx hb dX6_classes_84 (by decide) ?_
              have hk := on_nxL hM hk
              exact ih (0 : Int32) v5_10 t_row t_isUsed _ hk K1 _ _ hP hD hS ls (lv_sub hl [2, 3, 4, 5, 1, 0] rfl)
            · have hM := on_neg c_9 hM
              refine lv_iconst (v := 1) hx hb dX6_classes_74 (by decide) ?_
              refine lv_goto (tgt := 79) hx hb dX6_classes_75 (by decide) ?_
              refine lv_istore (lv' := [(4, .int (1 : Int32)), (0, .ref h_t), (1, .int v1), (2, .int v2), (3, .int v3), (5, .int v5)]) hx hb dX6_classes_79 hl (by decide) rfl (fun ls hl => ?_)
              obtain ⟨v5_11, ev5_11⟩ : ∃ z : Int32, z = v5 + 1 := ⟨_, rfl⟩
              have hM := on_letE ev5_11 hM
              refine lv_iinc (v := v5_11) (lv' := [(5, .int v5_11), (4, .int (1 : Int32)), (0, .ref h_t), (1, .int v1), (2, .int v2), (3, .int v3)]) hx hb dX6_classes_81 hl (k := 5) rfl (by rw [ev5_11]; rfl) (by decide) rfl (fun ls hl => ?_)
              refine lv_goto (tgt := 15) hx hb dX6_classes_84 (by decide) ?_
              have hk := on_nxL hM hk
              exact ih (1 : Int32) v5_11 t_row t_isUsed _ hk K1 _ _ hP hD hS ls (lv_sub hl [2, 3, 4, 5, 1, 0] rfl)
          · have hM := on_neg c_5 hM
            refine lv_aload_n hx hb dX6_classes_30 rfl (lv_at hl 0 rfl) ?_
            refine lv_aload_n hx hb dX6_classes_31 rfl (lv_at hl 0 rfl) ?_
            obtain ⟨q_12, hq_12, hM⟩ := on_bind hM
            refine on_callV (rest := [.ref h_t]) (As := []) (st1 := [.int q_12, .ref h_t]) (C := RX6) (ci := 6) (q0 := 0) (wc := [(h_t, .inr (6, [.ref h_t_state, .ref h_t_images, .ref h_t_isKept, .ref h_t_pad, .int t_said, .int t_leastSize, .int t_leastSet, .int t_found, .ref h_t_row, .ref h_t_isUsed, .ref h_t_table, .int t_rank, .long t_determinant])), (h_t_state, .inl (cI, 4, .inl t_state))]) (wr := [(h_t_row, .inl (cI, 7, .inl t_row)), (h_t_isUsed, .inl (cZ, 7, .inl t_isUsed))]) (wc' := [(h_t, .inr (6, [.ref h_t_state, .ref h_t_images, .ref h_t_isKept, .ref h_t_pad, .int t_said, .int t_leastSize, .int t_leastSet, .int t_found, .ref h_t_row, .ref h_t_isUsed, .ref h_t_table, .int t_rank, .long t_determinant])), (h_t_state, .inl (cI, 4, .inl t_state))]) (wf := [(h_t, .inr (6, [.ref h_t_state, .ref h_t_images, .ref h_t_isKept, .ref h_t_pad, .int t_said, .int t_leastSize, .int t_leastSet, .int t_found, .ref h_t_row, .ref h_t_isUsed, .ref h_t_table, .int t_rank, .long t_determinant])), (h_t_state, .inl (cI, 4, .inl t_state)), (h_t_row, .inl (cI, 7, .inl t_row)), (h_t_isUsed, .inl (cZ, 7, .inl t_isUsed))]) (rt := (some (.int q_12))) ⟨hx, hb, hml, hown, hts⟩ (k_X6_many h_t h_t_state h_t_images h_t_isKept h_t_pad h_t_row h_t_isUsed h_t_table t_said t_leastSize t_leastSet t_found t_rank t_determinant t_state q_12 hq_12) (cwV 0 hts gX6_classes_X6_many rfl rfl rfl ⟨rfl, hdX6_many⟩ ⟨(Nat.le_of_ble_eq_true rfl), (Nat.le_of_ble_eq_true rfl)⟩) hK hN hP hD hS hA [0, 1] [2, 3] [2, 3, 0, 1] rfl rfl rfl rfl (by decide) rfl rfl rfl rfl rfl rfl hl.1 rfl (Nat.le_of_ble_eq_true rfl) rfl dX6_classes_32 ⟨Nat.zero_le _, Nat.zero_le _⟩ (fun H locs hP hD hS => ?_)
            refine lv_aload_n hx hb dX6_classes_35 rfl (lv_at hl 0 rfl) ?_
            refine lv_iload_n hx hb dX6_classes_36 rfl (lv_at hl 3 rfl) ?_
            obtain ⟨q_13, hq_13, hM⟩ := on_bind hM
            refine on_callV (rest := [.int q_12, .ref h_t]) (As := [.int v3]) (st1 := [.int q_13, .int q_12, .ref h_t]) (C := RX6) (ci := 6) (q0 := 0) (wc := [(h_t, .inr (6, [.ref h_t_state, .ref h_t_images, .ref h_t_isKept, .ref h_t_pad, .int t_said, .int t_leastSize, .int t_leastSet, .int t_found, .ref h_t_row, .ref h_t_isUsed, .ref h_t_table, .int t_rank, .long t_determinant])), (h_t_state, .inl (cI, 4, .inl t_state))]) (wr := [(h_t_row, .inl (cI, 7, .inl t_row)), (h_t_isUsed, .inl (cZ, 7, .inl t_isUsed))]) (wc' := [(h_t, .inr (6, [.ref h_t_state, .ref h_t_images, .ref h_t_isKept, .ref h_t_pad, .int t_said, .int t_leastSize, .int t_leastSet, .int t_found, .ref h_t_row, .ref h_t_isUsed, .ref h_t_table, .int t_rank, .long t_determinant])), (h_t_state, .inl (cI, 4, .inl t_state))]) (wf := [(h_t, .inr (6, [.ref h_t_state, .ref h_t_images, .ref h_t_isKept, .ref h_t_pad, .int t_said, .int t_leastSize, .int t_leastSet, .int t_found, .ref h_t_row, .ref h_t_isUsed, .ref h_t_table, .int t_rank, .long t_determinant])), (h_t_state, .inl (cI, 4, .inl t_state)), (h_t_row, .inl (cI, 7, .inl t_row)), (h_t_isUsed, .inl (cZ, 7, .inl t_isUsed))]) (rt := (some (.int q_13))) ⟨hx, hb, hml, hown, hts⟩ (k_X6_netOf h_t h_t_state h_t_images h_t_isKept h_t_pad h_t_row h_t_isUsed h_t_table t_said t_leastSize t_leastSet t_found t_rank t_determinant t_state v3 q_13 hq_13) (cwV 1 hts gX6_classes_X6_netOf rfl rfl rfl ⟨rfl, hdX6_netOf⟩ ⟨(Nat.le_of_ble_eq_true rfl), (Nat.le_of_ble_eq_true rfl)⟩) hK hN hP hD hS hA [0, 1] [2, 3] [2, 3, 0, 1] rfl rfl rfl rfl (by decide) rfl rfl rfl rfl rfl rfl hl.1 rfl (Nat.le_of_ble_eq_true rfl) rfl dX6_classes_37 ⟨Nat.zero_le _, Nat.zero_le _⟩ (fun H locs hP hD hS => ?_)
            refine lv_aload_n hx hb dX6_classes_40 rfl (lv_at hl 0 rfl) ?_
            refine lv_iload hx hb dX6_classes_41 (lv_at hl 5 rfl) ?_
            obtain ⟨q_14, hq_14, hM⟩ := on_bind hM
            refine on_callV (rest := [.int q_13, .int q_12, .ref h_t]) (As := [.int v5]) (st1 := [.int q_14, .int q_13, .int q_12, .ref h_t]) (C := RX6) (ci := 6) (q0 := 0) (wc := [(h_t, .inr (6, [.ref h_t_state, .ref h_t_images, .ref h_t_isKept, .ref h_t_pad, .int t_said, .int t_leastSize, .int t_leastSet, .int t_found, .ref h_t_row, .ref h_t_isUsed, .ref h_t_table, .int t_rank, .long t_determinant])), (h_t_state, .inl (cI, 4, .inl t_state))]) (wr := [(h_t_row, .inl (cI, 7, .inl t_row)), (h_t_isUsed, .inl (cZ, 7, .inl t_isUsed))]) (wc' := [(h_t, .inr (6, [.ref h_t_state, .ref h_t_images, .ref h_t_isKept, .ref h_t_pad, .int t_said, .int t_leastSize, .int t_leastSet, .int t_found, .ref h_t_row, .ref h_t_isUsed, .ref h_t_table, .int t_rank, .long t_determinant])), (h_t_state, .inl (cI, 4, .inl t_state))]) (wf := [(h_t, .inr (6, [.ref h_t_state, .ref h_t_images, .ref h_t_isKept, .ref h_t_pad, .int t_said, .int t_leastSize, .int t_leastSet, .int t_found, .ref h_t_row, .ref h_t_isUsed, .ref h_t_table, .int t_rank, .long t_determinant])), (h_t_state, .inl (cI, 4, .inl t_state)), (h_t_row, .inl (cI, 7, .inl t_row)), (h_t_isUsed, .inl (cZ, 7, .inl t_isUsed))]) (rt := (some (.int q_14))) ⟨hx, hb, hml, hown, hts⟩ (k_X6_netOf h_t h_t_state h_t_images h_t_isKept h_t_pad h_t_row h_t_isUsed h_t_table t_said t_leastSize t_leastSet t_found t_rank t_determinant t_state v5 q_14 hq_14) (cwV 1 hts gX6_classes_X6_netOf rfl rfl rfl ⟨rfl, hdX6_netOf⟩ ⟨(Nat.le_of_ble_eq_true rfl), (Nat.le_of_ble_eq_true rfl)⟩) hK hN hP hD hS hA [0, 1] [2, 3] [2, 3, 0, 1] rfl rfl rfl rfl (by decide) rfl rfl rfl rfl rfl rfl hl.1 rfl (Nat.le_of_ble_eq_true rfl) rfl dX6_classes_43 ⟨Nat.zero_le _, Nat.zero_le _⟩ (fun H locs hP hD hS => ?_)
            refine lv_iconst (v := 1) hx hb dX6_classes_46 (by decide) ?_
            obtain ⟨q_15, hq_15, hM⟩ := on_bind hM
            refine on_callV (rest := []) (As := [.int q_12, .int q_13, .int q_14, .int (1 : Int32)]) (st1 := [.int q_15.1]) (C := RX6) (ci := 6) (q0 := 0) (wc := [(h_t, .inr (6, [.ref h_t_state, .ref h_t_images, .ref h_t_isKept, .ref h_t_pad, .int t_said, .int t_leastSize, .int t_leastSet, .int t_found, .ref h_t_row, .ref h_t_isUsed, .ref h_t_table, .int t_rank, .long t_determinant])), (h_t_row, .inl (cI, 7, .inl t_row)), (h_t_isUsed, .inl (cZ, 7, .inl t_isUsed))]) (wr := [(h_t_state, .inl (cI, 4, .inl t_state))]) (wc' := [(h_t, .inr (6, [.ref h_t_state, .ref h_t_images, .ref h_t_isKept, .ref h_t_pad, .int t_said, .int t_leastSize, .int t_leastSet, .int t_found, .ref h_t_row, .ref h_t_isUsed, .ref h_t_table, .int t_rank, .long t_determinant])), (h_t_row, .inl (cI, 7, .inl q_15.2.1)), (h_t_isUsed, .inl (cZ, 7, .inl q_15.2.2))]) (wf := [(h_t, .inr (6, [.ref h_t_state, .ref h_t_images, .ref h_t_isKept, .ref h_t_pad, .int t_said, .int t_leastSize, .int t_leastSet, .int t_found, .ref h_t_row, .ref h_t_isUsed, .ref h_t_table, .int t_rank, .long t_determinant])), (h_t_state, .inl (cI, 4, .inl t_state)), (h_t_row, .inl (cI, 7, .inl q_15.2.1)), (h_t_isUsed, .inl (cZ, 7, .inl q_15.2.2))]) (rt := (some (.int q_15.1))) ⟨hx, hb, hml, hown, hts⟩ (k_X6_comesTo h_t h_t_state h_t_images h_t_isKept h_t_pad h_t_row h_t_isUsed h_t_table t_said t_leastSize t_leastSet t_found t_rank t_determinant t_row t_isUsed q_12 q_13 q_14 (1 : Int32) q_15 hq_15) (cwV 4 hts gX6_classes_X6_comesTo rfl rfl rfl ⟨rfl, hdX6_comesTo⟩ ⟨(Nat.le_of_ble_eq_true rfl), (Nat.le_of_ble_eq_true rfl)⟩) hK hN hP hD hS hA [0, 2, 3] [1] [1, 0, 2, 3] rfl rfl rfl rfl (by decide) rfl rfl rfl rfl rfl rfl hl.1 rfl (Nat.le_of_ble_eq_true rfl) rfl dX6_classes_47 ⟨Nat.zero_le _, Nat.zero_le _⟩ (fun H locs hP hD hS => ?_)
            refine lv_if_ne (tgt := 78) hx hb dX6_classes_50 (by decide) (fun c_16 => ?_) (fun c_16 => ?_)
            · have hM := on_neg c_16 hM
              refine lv_iconst (v := 0) hx hb dX6_classes_78 (by decide) ?_
              refine lv_istore (lv' := [(4, .int (0 : Int32)), (0, .ref h_t), (1, .int v1), (2, .int v2), (3, .int v3), (5, .int v5)]) hx hb dX6_classes_79 hl (by decide) rfl (fun ls hl => ?_)
              obtain ⟨v5_17, ev5_17⟩ : ∃ z : Int32, z = v5 + 1 := ⟨_, rfl⟩
              have hM := on_letE ev5_17 hM
              refine lv_iinc (v := v5_17) (lv' := [(5, .int v5_17), (4, .int (0 : Int32)), (0, .ref h_t), (1, .int v1), (2, .int v2), (3, .int v3)]) hx hb dX6_classes_81 hl (k := 5) rfl (by rw [ev5_17]; rfl) (by decide) rfl (fun ls hl => ?_)
              refine lv_goto (tgt := 15) hx hb dX6_classes_84 (by decide) ?_
              have hk := on_nxL hM hk
              exact ih (0 : Int32) v5_17 q_15.2.1 q_15.2.2 _ hk K1 _ _ hP hD hS ls (lv_sub hl [2, 3, 4, 5, 1, 0] rfl)
            · have hM := on_pos c_16 hM
              refine lv_goto (tgt := 74) hx hb dX6_classes_53 (by decide) ?_
              refine lv_iconst (v := 1) hx hb dX6_classes_74 (by decide) ?_
              refine lv_goto (tgt := 79) hx hb dX6_classes_75 (by decide) ?_
              refine lv_istore (lv' := [(4, .int (1 : Int32)), (0, .ref h_t), (1, .int v1), (2, .int v2), (3, .int v3), (5, .int v5)]) hx hb dX6_classes_79 hl (by decide) rfl (fun ls hl => ?_)
              obtain ⟨v5_18, ev5_18⟩ : ∃ z : Int32, z = v5 + 1 := ⟨_, rfl⟩
              have hM := on_letE ev5_18 hM
              refine lv_iinc (v := v5_18) (lv' := [(5, .int v5_18), (4, .int (1 : Int32)), (0, .ref h_t), (1, .int v1), (2, .int v2), (3, .int v3)]) hx hb dX6_classes_81 hl (k := 5) rfl (by rw [ev5_18]; rfl) (by decide) rfl (fun ls hl => ?_)
              refine lv_goto (tgt := 15) hx hb dX6_classes_84 (by decide) ?_
              have hk := on_nxL hM hk
              exact ih (1 : Int32) v5_18 q_15.2.1 q_15.2.2 _ hk K1 _ _ hP hD hS ls (lv_sub hl [2, 3, 4, 5, 1, 0] rfl)
  have lp_4 : ∀ (v1 : Int32), ∀ (n : Nat) (v2 : Int32) (v3 : Int32) (t_row : Nat → Int32) (t_isUsed : Nat → Int32) (x : Int32 × (Nat → Int32) × (Nat → Int32)), on_loop (fun (s : Int32 × Int32 × (Nat → Int32) × (Nat → Int32)) => B_X6_classes_4 v1 t_state s.1 s.2.1 s.2.2.1 s.2.2.2) n (v2, v3, t_row, t_isUsed) = some x → (∀ (H : Heap) (locs : List Loc), va_P D vwCl [(h_t, .inr (6, [.ref h_t_state, .ref h_t_images, .ref h_t_isKept, .ref h_t_pad, .int t_said, .int t_leastSize, .int t_leastSet, .int t_found, .ref h_t_row, .ref h_t_isUsed, .ref h_t_table, .int t_rank, .long t_determinant])), (h_t_state, .inl (cI, 4, .inl t_state)), (h_t_row, .inl (cI, 7, .inl x.2.1)), (h_t_isUsed, .inl (cZ, 7, .inl x.2.2))] H → va_D A [(h_t, .inr (6, [.ref h_t_state, .ref h_t_images, .ref h_t_isKept, .ref h_t_pad, .int t_said, .int t_leastSize, .int t_leastSet, .int t_found, .ref h_t_row, .ref h_t_isUsed, .ref h_t_table, .int t_rank, .long t_determinant])), (h_t_state, .inl (cI, 4, .inl t_state)), (h_t_row, .inl (cI, 7, .inl x.2.1)), (h_t_isUsed, .inl (cZ, 7, .inl x.2.2))] → va_S A s.heap H locs → ∀ ls : Array Slot, lv_has ls 6 [(2, .int x.1)] → W p l e rm_X6_classes s m args below meth c H locs 0 0 Q (F0 m 106 ls [])) → ∀ (H : Heap) (locs : List Loc), va_P D vwCl [(h_t, .inr (6, [.ref h_t_state, .ref h_t_images, .ref h_t_isKept, .ref h_t_pad, .int t_said, .int t_leastSize, .int t_leastSet, .int t_found, .ref h_t_row, .ref h_t_isUsed, .ref h_t_table, .int t_rank, .long t_determinant])), (h_t_state, .inl (cI, 4, .inl t_state)), (h_t_row, .inl (cI, 7, .inl t_row)), (h_t_isUsed, .inl (cZ, 7, .inl t_isUsed))] H → va_D A [(h_t, .inr (6, [.ref h_t_state, .ref h_t_images, .ref h_t_isKept, .ref h_t_pad, .int t_said, .int t_leastSize, .int t_leastSet, .int t_found, .ref h_t_row, .ref h_t_isUsed, .ref h_t_table, .int t_rank, .long t_determinant])), (h_t_state, .inl (cI, 4, .inl t_state)), (h_t_row, .inl (cI, 7, .inl t_row)), (h_t_isUsed, .inl (cZ, 7, .inl t_isUsed))] → va_S A s.heap H locs → ∀ ls : Array Slot, lv_has ls 6 [(0, .ref h_t), (1, .int v1), (2, .int v2), (3, .int v3)] → W p l e rm_X6_classes s m args below meth c H locs 0 0 Q (F0 m 4 ls []) := by
    intro v1
    intro n
    induction n with
    | zero =>
      intro v2 v3 t_row t_isUsed x hL
      exact (on_loop0 hL).elim
    | succ n ih =>
      intro v2 v3 t_row t_isUsed x hL K1 H locs hP hD hS ls hl
      obtain ⟨y, hM, hk⟩ := on_loopE hL
      have hM : B_X6_classes_4 v1 t_state v2 v3 t_row t_isUsed = some y := hM
      unfold B_X6_classes_4 at hM
      refine lv_iload_n hx hb dX6_classes_4 rfl (lv_at hl 3 rfl) ?_
      refine lv_iconst (v := 3) hx hb dX6_classes_5 (by decide) ?_
      refine lv_icmp_ge (tgt := 106) hx hb dX6_classes_6 (by decide) (fun c_1 => ?_) (fun c_1 => ?_)
      · have hM := on_pos c_1 hM
        have hk := on_nxR hM hk
        subst hk
        exact K1 _ _ hP hD hS ls (lv_sub hl [2] rfl)
      · have hM := on_neg c_1 hM
        refine lv_iconst (v := 1) hx hb dX6_classes_9 (by decide) ?_
        refine lv_istore (lv' := [(4, .int (1 : Int32)), (0, .ref h_t), (1, .int v1), (2, .int v2), (3, .int v3)]) hx hb dX6_classes_10 hl (by decide) rfl (fun ls hl => ?_)
        refine lv_iconst (v := 0) hx hb dX6_classes_12 (by decide) ?_
        refine lv_istore (lv' := [(5, .int (0 : Int32)), (4, .int (1 : Int32)), (0, .ref h_t), (1, .int v1), (2, .int v2), (3, .int v3)]) hx hb dX6_classes_13 hl (by decide) rfl (fun ls hl => ?_)
        obtain ⟨q_19, hq_19, hM⟩ := on_bind hM
        refine lp_15 v1 v2 v3 on_F (1 : Int32) (0 : Int32) t_row t_isUsed q_19 hq_19 (fun H locs hP hD hS ls hl => ?_) H locs hP hD hS ls (lv_sub hl [2, 3, 4, 5, 1, 0] rfl)
        refine lv_iload_n hx hb dX6_classes_87 rfl (lv_at hl 2 rfl) ?_
        refine lv_iload hx hb dX6_classes_88 (lv_at hl 4 rfl) ?_
        refine lv_if_eq (tgt := 97) hx hb dX6_classes_90 (by decide) (fun c_20 => ?_) (fun c_20 => ?_)
        · have hM := on_pos c_20 hM
          refine lv_iconst (v := 0) hx hb dX6_classes_97 (by decide) ?_
          refine lv_iadd hx hb dX6_classes_98 ?_
          refine lv_topi (fun v2_21 ev2_21 => ?_)
          have hM := on_letE ev2_21 hM
          refine lv_istore_n (lv' := [(2, .int v2_21), (0, .ref h_t), (1, .int v1), (3, .int v3), (4, .int q_19.1)]) hx hb dX6_classes_99 rfl hl (by decide) rfl (fun ls hl => ?_)
          obtain ⟨v3_22, ev3_22⟩ : ∃ z : Int32, z = v3 + 1 := ⟨_, rfl⟩
          have hM := on_letE ev3_22 hM
          refine lv_iinc (v := v3_22) (lv' := [(3, .int v3_22), (2, .int v2_21), (0, .ref h_t), (1, .int v1), (4, .int q_19.1)]) hx hb dX6_classes_100 hl (k := 3) rfl (by rw [ev3_22]; rfl) (by decide) rfl (fun ls hl => ?_)
          refine lv_goto (tgt := 4) hx hb dX6_classes_103 (by decide) ?_
          have hk := on_nxL hM hk
          exact ih v2_21 v3_22 q_19.2.1 q_19.2.2 _ hk K1 _ _ hP hD hS ls (lv_sub hl [2, 3, 1, 0] rfl)
        · have hM := on_neg c_20 hM
          refine lv_iconst (v := 1) hx hb dX6_classes_93 (by decide) ?_
          refine lv_goto (tgt := 98) hx hb dX6_classes_94 (by decide) ?_
          refine lv_iadd hx hb dX6_classes_98 ?_
          refine lv_topi (fun v2_23 ev2_23 => ?_)
          have hM := on_letE ev2_23 hM
          refine lv_istore_n (lv' := [(2, .int v2_23), (0, .ref h_t), (1, .int v1), (3, .int v3), (4, .int q_19.1)]) hx hb dX6_classes_99 rfl hl (by decide) rfl (fun ls hl => ?_)
          obtain ⟨v3_24, ev3_24⟩ : ∃ z : Int32, z = v3 + 1 := ⟨_, rfl⟩
          have hM := on_letE ev3_24 hM
          refine lv_iinc (v := v3_24) (lv' := [(3, .int v3_24), (2, .int v2_23), (0, .ref h_t), (1, .int v1), (4, .int q_19.1)]) hx hb dX6_classes_100 hl (k := 3) rfl (by rw [ev3_24]; rfl) (by decide) rfl (fun ls hl => ?_)
          refine lv_goto (tgt := 4) hx hb dX6_classes_103 (by decide) ?_
          have hk := on_nxL hM hk
          exact ih v2_23 v3_24 q_19.2.1 q_19.2.2 _ hk K1 _ _ hP hD hS ls (lv_sub hl [2, 3, 1, 0] rfl)
  refine lv_iconst (v := 0) hx hb dX6_classes_0 (by decide) ?_
  refine lv_istore_n (lv' := [(2, .int (0 : Int32)), (0, .ref h_t), (1, .int v1)]) hx hb dX6_classes_1 rfl hl (by decide) rfl (fun ls hl => ?_)
  refine lv_iconst (v := 0) hx hb dX6_classes_2 (by decide) ?_
  refine lv_istore_n (lv' := [(3, .int (0 : Int32)), (2, .int (0 : Int32)), (0, .ref h_t), (1, .int v1)]) hx hb dX6_classes_3 rfl hl (by decide) rfl (fun ls hl => ?_)
  obtain ⟨q_25, hq_25, hM⟩ := on_bind hM
  refine lp_4 v1 on_F (0 : Int32) (0 : Int32) t_row t_isUsed q_25 hq_25 (fun H locs hP hD hS ls hl => ?_) H locs hP hD hS ls (lv_sub hl [2, 3, 1, 0] rfl)
  refine lv_iload_n hx hb dX6_classes_106 rfl (lv_at hl 0 rfl) ?_
  have hM := Option.some.inj hM
  subst hM
  rw [← hQ]
  exact on_iret hx hb hr hlk hP hD hS dX6_classes_107
abbrev rm_X6_count : Room := { frames := 7, cells := 0, slots := 0, locals := 167 }
set_option maxHeartbeats 4000000 in
set_option maxRecDepth 100000 in
theorem k_X6_count {l : Launch} {D : va_G} {cI cJ cZ cS cA : ClassId} (h_t : Nat) (h_t_state : Nat) (h_t_images : Nat) (h_t_isKept : Nat) (h_t_pad : Nat) (h_t_row : Nat) (h_t_isUsed : Nat) (h_t_table : Nat) (t_said : Int32) (t_leastSize : Int32) (t_leastSet : Int32) (t_found : Int32) (t_rank : Int32) (t_determinant : Int64) (t_state : Nat → Int32) (t_isKept : Nat → Int32) (t_row : Nat → Int32) (t_isUsed : Nat → Int32) (v1 : Int32) (out : Int32 × (Nat → Int32) × (Nat → Int32)) (hM : M_X6_count v1 t_said t_state t_isKept t_row t_isUsed = some out) : on_Con l yX6_count wsX6_count rm_X6_count [.ref h_t, .int v1] D (on_T cI cJ cZ cS cA) [(h_t, .inr (6, [.ref h_t_state, .ref h_t_images, .ref h_t_isKept, .ref h_t_pad, .int t_said, .int t_leastSize, .int t_leastSet, .int t_found, .ref h_t_row, .ref h_t_isUsed, .ref h_t_table, .int t_rank, .long t_determinant])), (h_t_state, .inl (cI, 4, .inl t_state)), (h_t_isKept, .inl (cZ, 2, .inl t_isKept)), (h_t_row, .inl (cI, 7, .inl t_row)), (h_t_isUsed, .inl (cZ, 7, .inl t_isUsed))] (some (.int out.1)) [(h_t, .inr (6, [.ref h_t_state, .ref h_t_images, .ref h_t_isKept, .ref h_t_pad, .int t_said, .int t_leastSize, .int t_leastSet, .int t_found, .ref h_t_row, .ref h_t_isUsed, .ref h_t_table, .int t_rank, .long t_determinant])), (h_t_state, .inl (cI, 4, .inl t_state)), (h_t_isKept, .inl (cZ, 2, .inl t_isKept)), (h_t_row, .inl (cI, 7, .inl out.2.1)), (h_t_isUsed, .inl (cZ, 7, .inl out.2.2))] := by
  unfold M_X6_count at hM
  refine on_enter (cc := cX6_count) (nL := 2) (rt := (some .int)) (own := RX6) (by decide +kernel) rfl rfl (Nat.le_of_ble_eq_true rfl) ?_
  intro p e s m below meth c A ls hx hb hml hr hlk hts hown hA hK hN H locs hP hD hS hl
  have hl : lv_has ls 2 [(0, .ref h_t), (1, .int v1)] := hl
  generalize hQ : MQ below (on_Q D (some (.int out.1)) [(h_t, .inr (6, [.ref h_t_state, .ref h_t_images, .ref h_t_isKept, .ref h_t_pad, .int t_said, .int t_leastSize, .int t_leastSet, .int t_found, .ref h_t_row, .ref h_t_isUsed, .ref h_t_table, .int t_rank, .long t_determinant])), (h_t_state, .inl (cI, 4, .inl t_state)), (h_t_isKept, .inl (cZ, 2, .inl t_isKept)), (h_t_row, .inl (cI, 7, .inl out.2.1)), (h_t_isUsed, .inl (cZ, 7, .inl out.2.2))] A) _ s 0 0 A = Q
  generalize hAr : List.toArray ([.ref h_t, .int v1] : List Value) = args at hts hQ ⊢
  have w1 := hts (.fieldLink RX6 82 "OddNetsModel" "said" "I") (by decide +kernel)
  have w2 : ∀ w ∈ wsX60, w ∈ wsX6_count := by decide +kernel
  have w3 := hts (.fieldLink RX6 16 "OddNetsModel" "isKept" "[Z") (by decide +kernel)
  refine lv_iload_n hx hb dX6_count_0 rfl (lv_at hl 1 rfl) ?_
  by_cases c_14 : v1 = 0
  · have hM := on_pos c_14 hM
    refine lv_tableIn (tgt := 44) hx hb dX6_count_1 (by rw [c_14]; decide) (by rw [c_14]; decide) (by rw [c_14]; rfl) (by decide) ?_
    refine lv_aload_n hx hb dX6_count_44 rfl (lv_at hl 0 rfl) ?_
    obtain ⟨q_1, hq_1, hM⟩ := on_bind hM
    refine on_callV (rest := []) (As := []) (st1 := [.int q_1]) (C := RX6) (ci := 6) (q0 := 0) (wc := [(h_t, .inr (6, [.ref h_t_state, .ref h_t_images, .ref h_t_isKept, .ref h_t_pad, .int t_said, .int t_leastSize, .int t_leastSet, .int t_found, .ref h_t_row, .ref h_t_isUsed, .ref h_t_table, .int t_rank, .long t_determinant])), (h_t_state, .inl (cI, 4, .inl t_state))]) (wr := [(h_t_isKept, .inl (cZ, 2, .inl t_isKept)), (h_t_row, .inl (cI, 7, .inl t_row)), (h_t_isUsed, .inl (cZ, 7, .inl t_isUsed))]) (wc' := [(h_t, .inr (6, [.ref h_t_state, .ref h_t_images, .ref h_t_isKept, .ref h_t_pad, .int t_said, .int t_leastSize, .int t_leastSet, .int t_found, .ref h_t_row, .ref h_t_isUsed, .ref h_t_table, .int t_rank, .long t_determinant])), (h_t_state, .inl (cI, 4, .inl t_state))]) (wf := [(h_t, .inr (6, [.ref h_t_state, .ref h_t_images, .ref h_t_isKept, .ref h_t_pad, .int t_said, .int t_leastSize, .int t_leastSet, .int t_found, .ref h_t_row, .ref h_t_isUsed, .ref h_t_table, .int t_rank, .long t_determinant])), (h_t_state, .inl (cI, 4, .inl t_state)), (h_t_isKept, .inl (cZ, 2, .inl t_isKept)), (h_t_row, .inl (cI, 7, .inl t_row)), (h_t_isUsed, .inl (cZ, 7, .inl t_isUsed))]) (rt := (some (.int q_1))) ⟨hx, hb, hml, hown, hts⟩ (k_X6_many h_t h_t_state h_t_images h_t_isKept h_t_pad h_t_row h_t_isUsed h_t_table t_said t_leastSize t_leastSet t_found t_rank t_determinant t_state q_1 hq_1) (cwV 0 hts gX6_count_X6_many rfl rfl rfl ⟨rfl, hdX6_many⟩ ⟨(Nat.le_of_ble_eq_true rfl), (Nat.le_of_ble_eq_true rfl)⟩) hK hN hP hD hS hA [0, 1] [2, 3, 4] [3, 4, 0, 1, 2] rfl rfl rfl rfl (by decide) rfl rfl rfl rfl rfl rfl hl.1 rfl (Nat.le_of_ble_eq_true rfl) rfl dX6_count_45 ⟨Nat.zero_le _, Nat.zero_le _⟩ (fun H locs hP hD hS => ?_)
    have hM := Option.some.inj hM
    subst hM
    rw [← hQ]
    exact on_iret hx hb hr hlk hP hD hS dX6_count_48
  · have hM := on_neg c_14 hM
    by_cases c_15 : v1 = 1
    · have hM := on_pos c_15 hM
      refine lv_tableIn (tgt := 49) hx hb dX6_count_1 (by rw [c_15]; decide) (by rw [c_15]; decide) (by rw [c_15]; rfl) (by decide) ?_
      refine lv_aload_n hx hb dX6_count_49 rfl (lv_at hl 0 rfl) ?_
      obtain ⟨q_2, hq_2, hM⟩ := on_bind hM
      refine on_callV (rest := []) (As := []) (st1 := [.int q_2]) (C := RX6) (ci := 6) (q0 := 0) (wc := [(h_t, .inr (6, [.ref h_t_state, .ref h_t_images, .ref h_t_isKept, .ref h_t_pad, .int t_said, .int t_leastSize, .int t_leastSet, .int t_found, .ref h_t_row, .ref h_t_isUsed, .ref h_t_table, .int t_rank, .long t_determinant])), (h_t_state, .inl (cI, 4, .inl t_state))]) (wr := [(h_t_isKept, .inl (cZ, 2, .inl t_isKept)), (h_t_row, .inl (cI, 7, .inl t_row)), (h_t_isUsed, .inl (cZ, 7, .inl t_isUsed))]) (wc' := [(h_t, .inr (6, [.ref h_t_state, .ref h_t_images, .ref h_t_isKept, .ref h_t_pad, .int t_said, .int t_leastSize, .int t_leastSet, .int t_found, .ref h_t_row, .ref h_t_isUsed, .ref h_t_table, .int t_rank, .long t_determinant])), (h_t_state, .inl (cI, 4, .inl t_state))]) (wf := [(h_t, .inr (6, [.ref h_t_state, .ref h_t_images, .ref h_t_isKept, .ref h_t_pad, .int t_said, .int t_leastSize, .int t_leastSet, .int t_found, .ref h_t_row, .ref h_t_isUsed, .ref h_t_table, .int t_rank, .long t_determinant])), (h_t_state, .inl (cI, 4, .inl t_state)), (h_t_isKept, .inl (cZ, 2, .inl t_isKept)), (h_t_row, .inl (cI, 7, .inl t_row)), (h_t_isUsed, .inl (cZ, 7, .inl t_isUsed))]) (rt := (some (.int q_2))) ⟨hx, hb, hml, hown, hts⟩ (k_X6_many h_t h_t_state h_t_images h_t_isKept h_t_pad h_t_row h_t_isUsed h_t_table t_said t_leastSize t_leastSet t_found t_rank t_determinant t_state q_2 hq_2) (cwV 0 hts gX6_count_X6_many rfl rfl rfl ⟨rfl, hdX6_many⟩ ⟨(Nat.le_of_ble_eq_true rfl), (Nat.le_of_ble_eq_true rfl)⟩) hK hN hP hD hS hA [0, 1] [2, 3, 4] [3, 4, 0, 1, 2] rfl rfl rfl rfl (by decide) rfl rfl rfl rfl rfl rfl hl.1 rfl (Nat.le_of_ble_eq_true rfl) rfl dX6_count_50 ⟨Nat.zero_le _, Nat.zero_le _⟩ (fun H locs hP hD hS => ?_)
      obtain ⟨q_3, hq_3, hM⟩ := on_bind hM
      refine on_callS0 (rest := []) (As := [.int q_2]) (st1 := [.int q_3]) ⟨hx, hb, hml, hown, hts⟩ (k_X6_pairs q_2 q_3 hq_3) (va_cwS 1 hts gX6_count_X6_pairs rfl rfl rfl hdX6_pairs ⟨(Nat.le_of_ble_eq_true rfl), (Nat.le_of_ble_eq_true rfl)⟩) hK hN hP hD hS hA rfl hl.1 rfl (Nat.le_of_ble_eq_true rfl) rfl dX6_count_53 ⟨Nat.zero_le _, Nat.zero_le _⟩ (fun H locs hP hS => ?_)
      have hM := Option.some.inj hM
      subst hM
      rw [← hQ]
      exact on_iret hx hb hr hlk hP hD hS dX6_count_56
    · have hM := on_neg c_15 hM
      by_cases c_16 : v1 = 2
      · have hM := on_pos c_16 hM
        refine lv_tableIn (tgt := 57) hx hb dX6_count_1 (by rw [c_16]; decide) (by rw [c_16]; decide) (by rw [c_16]; rfl) (by decide) ?_
        refine lv_aload_n hx hb dX6_count_57 rfl (lv_at hl 0 rfl) ?_
        obtain ⟨q_4, hq_4, hM⟩ := on_bind hM
        refine on_callV (rest := []) (As := []) (st1 := [.int q_4]) (C := RX6) (ci := 6) (q0 := 0) (wc := [(h_t, .inr (6, [.ref h_t_state, .ref h_t_images, .ref h_t_isKept, .ref h_t_pad, .int t_said, .int t_leastSize, .int t_leastSet, .int t_found, .ref h_t_row, .ref h_t_isUsed, .ref h_t_table, .int t_rank, .long t_determinant])), (h_t_state, .inl (cI, 4, .inl t_state))]) (wr := [(h_t_isKept, .inl (cZ, 2, .inl t_isKept)), (h_t_row, .inl (cI, 7, .inl t_row)), (h_t_isUsed, .inl (cZ, 7, .inl t_isUsed))]) (wc' := [(h_t, .inr (6, [.ref h_t_state, .ref h_t_images, .ref h_t_isKept, .ref h_t_pad, .int t_said, .int t_leastSize, .int t_leastSet, .int t_found, .ref h_t_row, .ref h_t_isUsed, .ref h_t_table, .int t_rank, .long t_determinant])), (h_t_state, .inl (cI, 4, .inl t_state))]) (wf := [(h_t, .inr (6, [.ref h_t_state, .ref h_t_images, .ref h_t_isKept, .ref h_t_pad, .int t_said, .int t_leastSize, .int t_leastSet, .int t_found, .ref h_t_row, .ref h_t_isUsed, .ref h_t_table, .int t_rank, .long t_determinant])), (h_t_state, .inl (cI, 4, .inl t_state)), (h_t_isKept, .inl (cZ, 2, .inl t_isKept)), (h_t_row, .inl (cI, 7, .inl t_row)), (h_t_isUsed, .inl (cZ, 7, .inl t_isUsed))]) (rt := (some (.int q_4))) ⟨hx, hb, hml, hown, hts⟩ (k_X6_many h_t h_t_state h_t_images h_t_isKept h_t_pad h_t_row h_t_isUsed h_t_table t_said t_leastSize t_leastSet t_found t_rank t_determinant t_state q_4 hq_4) (cwV 0 hts gX6_count_X6_many rfl rfl rfl ⟨rfl, hdX6_many⟩ ⟨(Nat.le_of_ble_eq_true rfl), (Nat.le_of_ble_eq_true rfl)⟩) hK hN hP hD hS hA [0, 1] [2, 3, 4] [3, 4, 0, 1, 2] rfl rfl rfl rfl (by decide) rfl rfl rfl rfl rfl rfl hl.1 rfl (Nat.le_of_ble_eq_true rfl) rfl dX6_count_58 ⟨Nat.zero_le _, Nat.zero_le _⟩ (fun H locs hP hD hS => ?_)
        obtain ⟨q_5, hq_5, hM⟩ := on_bind hM
        refine on_callS0 (rest := []) (As := [.int q_4]) (st1 := [.int q_5]) ⟨hx, hb, hml, hown, hts⟩ (k_X6_triples q_4 q_5 hq_5) (va_cwS 1 hts gX6_count_X6_triples rfl rfl rfl hdX6_triples ⟨(Nat.le_of_ble_eq_true rfl), (Nat.le_of_ble_eq_true rfl)⟩) hK hN hP hD hS hA rfl hl.1 rfl (Nat.le_of_ble_eq_true rfl) rfl dX6_count_61 ⟨Nat.zero_le _, Nat.zero_le _⟩ (fun H locs hP hS => ?_)
        have hM := Option.some.inj hM
        subst hM
        rw [← hQ]
        exact on_iret hx hb hr hlk hP hD hS dX6_count_64
      · have hM := on_neg c_16 hM
        by_cases c_17 : v1 = 3
        · have hM := on_pos c_17 hM
          refine lv_tableIn (tgt := 65) hx hb dX6_count_1 (by rw [c_17]; decide) (by rw [c_17]; decide) (by rw [c_17]; rfl) (by decide) ?_
          refine lv_aload_n hx hb dX6_count_65 rfl (lv_at hl 0 rfl) ?_
          refine va_get (D := D) (ci := 6) (v := .int t_said) (C := RX6) (T := TX6) (N := 13) hx hb hts w2 hown hK hP 0 rfl rfl 4 (by decide) w1 (fun _ h9 => h9) rfl dX6_count_66 ?_
          have hM := Option.some.inj hM
          subst hM
          rw [← hQ]
          exact on_iret hx hb hr hlk hP hD hS dX6_count_69
        · have hM := on_neg c_17 hM
          by_cases c_18 : v1 = 4
          · have hM := on_pos c_18 hM
            refine lv_tableIn (tgt := 70) hx hb dX6_count_1 (by rw [c_18]; decide) (by rw [c_18]; decide) (by rw [c_18]; rfl) (by decide) ?_
            refine lv_aload_n hx hb dX6_count_70 rfl (lv_at hl 0 rfl) ?_
            refine lv_iconst (v := 0) hx hb dX6_count_71 (by decide) ?_
            obtain ⟨q_6, hq_6, hM⟩ := on_bind hM
            refine on_callV (rest := []) (As := [.int (0 : Int32)]) (st1 := [.int q_6.1]) (C := RX6) (ci := 6) (q0 := 0) (wc := [(h_t, .inr (6, [.ref h_t_state, .ref h_t_images, .ref h_t_isKept, .ref h_t_pad, .int t_said, .int t_leastSize, .int t_leastSet, .int t_found, .ref h_t_row, .ref h_t_isUsed, .ref h_t_table, .int t_rank, .long t_determinant])), (h_t_state, .inl (cI, 4, .inl t_state)), (h_t_row, .inl (cI, 7, .inl t_row)), (h_t_isUsed, .inl (cZ, 7, .inl t_isUsed))]) (wr := [(h_t_isKept, .inl (cZ, 2, .inl t_isKept))]) (wc' := [(h_t, .inr (6, [.ref h_t_state, .ref h_t_images, .ref h_t_isKept, .ref h_t_pad, .int t_said, .int t_leastSize, .int t_leastSet, .int t_found, .ref h_t_row, .ref h_t_isUsed, .ref h_t_table, .int t_rank, .long t_determinant])), (h_t_state, .inl (cI, 4, .inl t_state)), (h_t_row, .inl (cI, 7, .inl q_6.2.1)), (h_t_isUsed, .inl (cZ, 7, .inl q_6.2.2))]) (wf := [(h_t, .inr (6, [.ref h_t_state, .ref h_t_images, .ref h_t_isKept, .ref h_t_pad, .int t_said, .int t_leastSize, .int t_leastSet, .int t_found, .ref h_t_row, .ref h_t_isUsed, .ref h_t_table, .int t_rank, .long t_determinant])), (h_t_state, .inl (cI, 4, .inl t_state)), (h_t_isKept, .inl (cZ, 2, .inl t_isKept)), (h_t_row, .inl (cI, 7, .inl q_6.2.1)), (h_t_isUsed, .inl (cZ, 7, .inl q_6.2.2))]) (rt := (some (.int q_6.1))) ⟨hx, hb, hml, hown, hts⟩ (k_X6_classes h_t h_t_state h_t_images h_t_isKept h_t_pad h_t_row h_t_isUsed h_t_table t_said t_leastSize t_leastSet t_found t_rank t_determinant t_state t_row t_isUsed (0 : Int32) q_6 hq_6) (cwV 1 hts gX6_count_X6_classes rfl rfl rfl ⟨rfl, hdX6_classes⟩ ⟨(Nat.le_of_ble_eq_true rfl), (Nat.le_of_ble_eq_true rfl)⟩) hK hN hP hD hS hA [0, 1, 3, 4] [2] [1, 2, 0, 3, 4] rfl rfl rfl rfl (by decide) rfl rfl rfl rfl rfl rfl hl.1 rfl (Nat.le_of_ble_eq_true rfl) rfl dX6_count_72 ⟨Nat.zero_le _, Nat.zero_le _⟩ (fun H locs hP hD hS => ?_)
            have hM := Option.some.inj hM
            subst hM
            rw [← hQ]
            exact on_iret hx hb hr hlk hP hD hS dX6_count_75
          · have hM := on_neg c_18 hM
            by_cases c_19 : v1 = 5
            · have hM := on_pos c_19 hM
              refine lv_tableIn (tgt := 76) hx hb dX6_count_1 (by rw [c_19]; decide) (by rw [c_19]; decide) (by rw [c_19]; rfl) (by decide) ?_
              refine lv_aload_n hx hb dX6_count_76 rfl (lv_at hl 0 rfl) ?_
              refine lv_iconst (v := 1) hx hb dX6_count_77 (by decide) ?_
              obtain ⟨q_7, hq_7, hM⟩ := on_bind hM
              refine on_callV (rest := []) (As := [.int (1 : Int32)]) (st1 := [.int q_7.1]) (C := RX6) (ci := 6) (q0 := 0) (wc := [(h_t, .inr (6, [.ref h_t_state, .ref h_t_images, .ref h_t_isKept, .ref h_t_pad, .int t_said, .int t_leastSize, .int t_leastSet, .int t_found, .ref h_t_row, .ref h_t_isUsed, .ref h_t_table, .int t_rank, .long t_determinant])), (h_t_state, .inl (cI, 4, .inl t_state)), (h_t_row, .inl (cI, 7, .inl t_row)), (h_t_isUsed, .inl (cZ, 7, .inl t_isUsed))]) (wr := [(h_t_isKept, .inl (cZ, 2, .inl t_isKept))]) (wc' := [(h_t, .inr (6, [.ref h_t_state, .ref h_t_images, .ref h_t_isKept, .ref h_t_pad, .int t_said, .int t_leastSize, .int t_leastSet, .int t_found, .ref h_t_row, .ref h_t_isUsed, .ref h_t_table, .int t_rank, .long t_determinant])), (h_t_state, .inl (cI, 4, .inl t_state)), (h_t_row, .inl (cI, 7, .inl q_7.2.1)), (h_t_isUsed, .inl (cZ, 7, .inl q_7.2.2))]) (wf := [(h_t, .inr (6, [.ref h_t_state, .ref h_t_images, .ref h_t_isKept, .ref h_t_pad, .int t_said, .int t_leastSize, .int t_leastSet, .int t_found, .ref h_t_row, .ref h_t_isUsed, .ref h_t_table, .int t_rank, .long t_determinant])), (h_t_state, .inl (cI, 4, .inl t_state)), (h_t_isKept, .inl (cZ, 2, .inl t_isKept)), (h_t_row, .inl (cI, 7, .inl q_7.2.1)), (h_t_isUsed, .inl (cZ, 7, .inl q_7.2.2))]) (rt := (some (.int q_7.1))) ⟨hx, hb, hml, hown, hts⟩ (k_X6_classes h_t h_t_state h_t_images h_t_isKept h_t_pad h_t_row h_t_isUsed h_t_table t_said t_leastSize t_leastSet t_found t_rank t_determinant t_state t_row t_isUsed (1 : Int32) q_7 hq_7) (cwV 1 hts gX6_count_X6_classes rfl rfl rfl ⟨rfl, hdX6_classes⟩ ⟨(Nat.le_of_ble_eq_true rfl), (Nat.le_of_ble_eq_true rfl)⟩) hK hN hP hD hS hA [0, 1, 3, 4] [2] [1, 2, 0, 3, 4] rfl rfl rfl rfl (by decide) rfl rfl rfl rfl rfl rfl hl.1 rfl (Nat.le_of_ble_eq_true rfl) rfl dX6_count_78 ⟨Nat.zero_le _, Nat.zero_le _⟩ (fun H locs hP hD hS => ?_)
              have hM := Option.some.inj hM
              subst hM
              rw [← hQ]
              exact on_iret hx hb hr hlk hP hD hS dX6_count_81
            · have hM := on_neg c_19 hM
              by_cases c_20 : v1 = 6
              · have hM := on_pos c_20 hM
                refine lv_tableIn (tgt := 82) hx hb dX6_count_1 (by rw [c_20]; decide) (by rw [c_20]; decide) (by rw [c_20]; rfl) (by decide) ?_
                refine lv_aload_n hx hb dX6_count_82 rfl (lv_at hl 0 rfl) ?_
                refine va_get (D := D) (ci := 6) (v := .ref h_t_isKept) (C := RX6) (T := TX6) (N := 13) hx hb hts w2 hown hK hP 0 rfl rfl 2 (by decide) w3 (fun _ h9 => h9) rfl dX6_count_83 ?_
                refine lv_iconst (v := 0) hx hb dX6_count_86 (by decide) ?_
                obtain ⟨g_8, hM⟩ := on_gdE hM
                refine va_zald hx hb hK hP 2 2 rfl rfl (on_ixE g_8) dX6_count_87 ?_
                refine lv_if_eq (tgt := 95) hx hb dX6_count_88 (by decide) (fun c_9 => ?_) (fun c_9 => ?_)
                · have hM := on_pos c_9 hM
                  refine lv_iconst (v := 0) hx hb dX6_count_95 (by decide) ?_
                  refine lv_aload_n hx hb dX6_count_96 rfl (lv_at hl 0 rfl) ?_
                  refine va_get (D := D) (ci := 6) (v := .ref h_t_isKept) (C := RX6) (T := TX6) (N := 13) hx hb hts w2 hown hK hP 0 rfl rfl 2 (by decide) w3 (fun _ h9 => h9) rfl dX6_count_97 ?_
                  refine lv_iconst (v := 1) hx hb dX6_count_100 (by decide) ?_
                  obtain ⟨g_10, hM⟩ := on_gdE hM
                  refine va_zald hx hb hK hP 2 2 rfl rfl (on_ixE g_10) dX6_count_101 ?_
                  refine lv_if_eq (tgt := 109) hx hb dX6_count_102 (by decide) (fun c_11 => ?_) (fun c_11 => ?_)
                  · have hM := on_pos c_11 hM
                    refine lv_iconst (v := 0) hx hb dX6_count_109 (by decide) ?_
                    refine lv_iadd hx hb dX6_count_110 ?_
                    have hM := Option.some.inj hM
                    subst hM
                    rw [← hQ]
                    exact on_iret hx hb hr hlk hP hD hS dX6_count_111
                  · have hM := on_neg c_11 hM
                    refine lv_iconst (v := 2) hx hb dX6_count_105 (by decide) ?_
                    refine lv_goto (tgt := 110) hx hb dX6_count_106 (by decide) ?_
                    refine lv_iadd hx hb dX6_count_110 ?_
                    have hM := Option.some.inj hM
                    subst hM
                    rw [← hQ]
                    exact on_iret hx hb hr hlk hP hD hS dX6_count_111
                · have hM := on_neg c_9 hM
                  refine lv_iconst (v := 1) hx hb dX6_count_91 (by decide) ?_
                  refine lv_goto (tgt := 96) hx hb dX6_count_92 (by decide) ?_
                  refine lv_aload_n hx hb dX6_count_96 rfl (lv_at hl 0 rfl) ?_
                  refine va_get (D := D) (ci := 6) (v := .ref h_t_isKept) (C := RX6) (T := TX6) (N := 13) hx hb hts w2 hown hK hP 0 rfl rfl 2 (by decide) w3 (fun _ h9 => h9) rfl dX6_count_97 ?_
                  refine lv_iconst (v := 1) hx hb dX6_count_100 (by decide) ?_
                  obtain ⟨g_12, hM⟩ := on_gdE hM
                  refine va_zald hx hb hK hP 2 2 rfl rfl (on_ixE g_12) dX6_count_101 ?_
                  refine lv_if_eq (tgt := 109) hx hb dX6_count_102 (by decide) (fun c_13 => ?_) (fun c_13 => ?_)
                  · have hM := on_pos c_13 hM
                    refine lv_iconst (v := 0) hx hb dX6_count_109 (by decide) ?_
                    refine lv_iadd hx hb dX6_count_110 ?_
                    have hM := Option.some.inj hM
                    subst hM
                    rw [← hQ]
                    exact on_iret hx hb hr hlk hP hD hS dX6_count_111
                  · have hM := on_neg c_13 hM
                    refine lv_iconst (v := 2) hx hb dX6_count_105 (by decide) ?_
                    refine lv_goto (tgt := 110) hx hb dX6_count_106 (by decide) ?_
                    refine lv_iadd hx hb dX6_count_110 ?_
                    have hM := Option.some.inj hM
                    subst hM
                    rw [← hQ]
                    exact on_iret hx hb hr hlk hP hD hS dX6_count_111
              · have hM := on_neg c_20 hM
                refine lv_tableOut (tgt := 112) hx hb dX6_count_1 (on_swOut (n := 7) (fun k hk => by rcases (show k = 0 ∨ k = 1 ∨ k = 2 ∨ k = 3 ∨ k = 4 ∨ k = 5 ∨ k = 6 by omega) with rfl | rfl | rfl | rfl | rfl | rfl | rfl <;> first | exact c_14 | exact c_15 | exact c_16 | exact c_17 | exact c_18 | exact c_19 | exact c_20) (by decide)) (by decide) ?_
                refine lv_bipush (v := -2) hx hb dX6_count_112 (by decide) ?_
                have hM := Option.some.inj hM
                subst hM
                rw [← hQ]
                exact on_iret hx hb hr hlk hP hD hS dX6_count_114
