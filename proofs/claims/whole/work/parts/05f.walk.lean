abbrev rm_X6_join : Room := { frames := 2, cells := 0, slots := 0, locals := 45 }
set_option maxHeartbeats 4000000 in
set_option maxRecDepth 100000 in
theorem k_X6_join {l : Launch} {D : va_G} {cI cJ cZ cS cA : ClassId} (h_t : Nat) (h_t_state : Nat) (h_t_images : Nat) (h_t_isKept : Nat) (h_t_pad : Nat) (h_t_row : Nat) (h_t_isUsed : Nat) (h_t_table : Nat) (t_said : Int32) (t_leastSize : Int32) (t_leastSet : Int32) (t_found : Int32) (t_rank : Int32) (t_determinant : Int64) (t_state : Nat → Int32) (v1 : Int32) (v2 : Int32) (v3 : Int32) (v4 : Int32) (out : Int32 × (Nat → Int32)) (hM : M_X6_join v1 v2 v3 v4 t_state = some out) : on_Con l yX6_join wsX6_join rm_X6_join [.ref h_t, .int v1, .int v2, .int v3, .int v4] D (on_T cI cJ cZ cS cA) [(h_t, .inr (6, [.ref h_t_state, .ref h_t_images, .ref h_t_isKept, .ref h_t_pad, .int t_said, .int t_leastSize, .int t_leastSet, .int t_found, .ref h_t_row, .ref h_t_isUsed, .ref h_t_table, .int t_rank, .long t_determinant])), (h_t_state, .inl (cI, 4, .inl t_state))] (some (.int out.1)) [(h_t, .inr (6, [.ref h_t_state, .ref h_t_images, .ref h_t_isKept, .ref h_t_pad, .int t_said, .int t_leastSize, .int t_leastSet, .int t_found, .ref h_t_row, .ref h_t_isUsed, .ref h_t_table, .int t_rank, .long t_determinant])), (h_t_state, .inl (cI, 4, .inl out.2))] := by
  unfold M_X6_join at hM
  refine on_enter (cc := cX6_join) (nL := 6) (rt := (some .int)) (own := RX6) (by decide +kernel) rfl rfl (Nat.le_of_ble_eq_true rfl) ?_
  intro p e s m below meth c A ls hx hb hml hr hlk hts hown hA hK hN H locs hP hD hS hl
  have hl : lv_has ls 6 [(0, .ref h_t), (1, .int v1), (2, .int v2), (3, .int v3), (4, .int v4)] := hl
  generalize hQ : MQ below (on_Q D (some (.int out.1)) [(h_t, .inr (6, [.ref h_t_state, .ref h_t_images, .ref h_t_isKept, .ref h_t_pad, .int t_said, .int t_leastSize, .int t_leastSet, .int t_found, .ref h_t_row, .ref h_t_isUsed, .ref h_t_table, .int t_rank, .long t_determinant])), (h_t_state, .inl (cI, 4, .inl out.2))] A) _ s 0 0 A = Q
  generalize hAr : List.toArray ([.ref h_t, .int v1, .int v2, .int v3, .int v4] : List Value) = args at hts hQ ⊢
  have w1 := hts (.fieldLink RX6 7 "OddNetsModel" "state" "[I") (by decide +kernel)
  have w2 : ∀ w ∈ wsX60, w ∈ wsX6_join := by decide +kernel
  refine lv_iload_n hx hb dX6_join_0 rfl (lv_at hl 1 rfl) ?_
  obtain ⟨q_1, hq_1, hM⟩ := on_bind hM
  refine on_callS0 (rest := []) (As := [.int v1]) (st1 := [.int q_1]) ⟨hx, hb, hml, hown, hts⟩ (k_X6_isSlot v1 q_1 hq_1) (va_cwS 1 hts gX6_join_X6_isSlot rfl rfl rfl hdX6_isSlot ⟨(Nat.le_of_ble_eq_true rfl), (Nat.le_of_ble_eq_true rfl)⟩) hK hN hP hD hS hA rfl hl.1 rfl (Nat.le_of_ble_eq_true rfl) rfl dX6_join_1 ⟨Nat.zero_le _, Nat.zero_le _⟩ (fun H locs hP hS => ?_)
  refine lv_if_eq (tgt := 23) hx hb dX6_join_4 (by decide) (fun c_2 => ?_) (fun c_2 => ?_)
  · have hM := on_pos c_2 hM
    refine lv_iconst (v := -1) hx hb dX6_join_23 (by decide) ?_
    have hM := Option.some.inj hM
    subst hM
    rw [← hQ]
    exact on_iret hx hb hr hlk hP hD hS dX6_join_24
  · have hM := on_neg c_2 hM
    refine lv_aload_n hx hb dX6_join_7 rfl (lv_at hl 0 rfl) ?_
    refine lv_iload_n hx hb dX6_join_8 rfl (lv_at hl 2 rfl) ?_
    obtain ⟨q_3, hq_3, hM⟩ := on_bind hM
    refine on_callV (rest := []) (As := [.int v2]) (st1 := [.int q_3]) (C := RX6) (ci := 6) (q0 := 0) (wc := [(h_t, .inr (6, [.ref h_t_state, .ref h_t_images, .ref h_t_isKept, .ref h_t_pad, .int t_said, .int t_leastSize, .int t_leastSet, .int t_found, .ref h_t_row, .ref h_t_isUsed, .ref h_t_table, .int t_rank, .long t_determinant])), (h_t_state, .inl (cI, 4, .inl t_state))]) (wr := []) (wc' := [(h_t, .inr (6, [.ref h_t_state, .ref h_t_images, .ref h_t_isKept, .ref h_t_pad, .int t_said, .int t_leastSize, .int t_leastSet, .int t_found, .ref h_t_row, .ref h_t_isUsed, .ref h_t_table, .int t_rank, .long t_determinant])), (h_t_state, .inl (cI, 4, .inl t_state))]) (wf := [(h_t, .inr (6, [.ref h_t_state, .ref h_t_images, .ref h_t_isKept, .ref h_t_pad, .int t_said, .int t_leastSize, .int t_leastSet, .int t_found, .ref h_t_row, .ref h_t_isUsed, .ref h_t_table, .int t_rank, .long t_determinant])), (h_t_state, .inl (cI, 4, .inl t_state))]) (rt := (some (.int q_3))) ⟨hx, hb, hml, hown, hts⟩ (k_X6_isNode h_t h_t_state h_t_images h_t_isKept h_t_pad h_t_row h_t_isUsed h_t_table t_said t_leastSize t_leastSet t_found t_rank t_determinant t_state v2 q_3 hq_3) (cwV 1 hts gX6_join_X6_isNode rfl rfl rfl ⟨rfl, hdX6_isNode⟩ ⟨(Nat.le_of_ble_eq_true rfl), (Nat.le_of_ble_eq_true rfl)⟩) hK hN hP hD hS hA [0, 1] [] [0, 1] rfl rfl rfl rfl (by decide) rfl rfl rfl rfl rfl rfl hl.1 rfl (Nat.le_of_ble_eq_true rfl) rfl dX6_join_9 ⟨Nat.zero_le _, Nat.zero_le _⟩ (fun H locs hP hD hS => ?_)
    refine lv_if_eq (tgt := 23) hx hb dX6_join_12 (by decide) (fun c_4 => ?_) (fun c_4 => ?_)
    · have hM := on_pos c_4 hM
      refine lv_iconst (v := -1) hx hb dX6_join_23 (by decide) ?_
      have hM := Option.some.inj hM
      subst hM
      rw [← hQ]
      exact on_iret hx hb hr hlk hP hD hS dX6_join_24
    · have hM := on_neg c_4 hM
      refine lv_aload_n hx hb dX6_join_15 rfl (lv_at hl 0 rfl) ?_
      refine lv_iload_n hx hb dX6_join_16 rfl (lv_at hl 3 rfl) ?_
      obtain ⟨q_5, hq_5, hM⟩ := on_bind hM
      refine on_callV (rest := []) (As := [.int v3]) (st1 := [.int q_5]) (C := RX6) (ci := 6) (q0 := 0) (wc := [(h_t, .inr (6, [.ref h_t_state, .ref h_t_images, .ref h_t_isKept, .ref h_t_pad, .int t_said, .int t_leastSize, .int t_leastSet, .int t_found, .ref h_t_row, .ref h_t_isUsed, .ref h_t_table, .int t_rank, .long t_determinant])), (h_t_state, .inl (cI, 4, .inl t_state))]) (wr := []) (wc' := [(h_t, .inr (6, [.ref h_t_state, .ref h_t_images, .ref h_t_isKept, .ref h_t_pad, .int t_said, .int t_leastSize, .int t_leastSet, .int t_found, .ref h_t_row, .ref h_t_isUsed, .ref h_t_table, .int t_rank, .long t_determinant])), (h_t_state, .inl (cI, 4, .inl t_state))]) (wf := [(h_t, .inr (6, [.ref h_t_state, .ref h_t_images, .ref h_t_isKept, .ref h_t_pad, .int t_said, .int t_leastSize, .int t_leastSet, .int t_found, .ref h_t_row, .ref h_t_isUsed, .ref h_t_table, .int t_rank, .long t_determinant])), (h_t_state, .inl (cI, 4, .inl t_state))]) (rt := (some (.int q_5))) ⟨hx, hb, hml, hown, hts⟩ (k_X6_isNode h_t h_t_state h_t_images h_t_isKept h_t_pad h_t_row h_t_isUsed h_t_table t_said t_leastSize t_leastSet t_found t_rank t_determinant t_state v3 q_5 hq_5) (cwV 1 hts gX6_join_X6_isNode rfl rfl rfl ⟨rfl, hdX6_isNode⟩ ⟨(Nat.le_of_ble_eq_true rfl), (Nat.le_of_ble_eq_true rfl)⟩) hK hN hP hD hS hA [0, 1] [] [0, 1] rfl rfl rfl rfl (by decide) rfl rfl rfl rfl rfl rfl hl.1 rfl (Nat.le_of_ble_eq_true rfl) rfl dX6_join_17 ⟨Nat.zero_le _, Nat.zero_le _⟩ (fun H locs hP hD hS => ?_)
      refine lv_if_ne (tgt := 25) hx hb dX6_join_20 (by decide) (fun c_6 => ?_) (fun c_6 => ?_)
      · have hM := on_neg c_6 hM
        refine lv_iload_n hx hb dX6_join_25 rfl (lv_at hl 2 rfl) ?_
        refine lv_iload_n hx hb dX6_join_26 rfl (lv_at hl 3 rfl) ?_
        refine lv_icmp_eq (tgt := 40) hx hb dX6_join_27 (by decide) (fun c_7 => ?_) (fun c_7 => ?_)
        · have hM := on_pos c_7 hM
          refine lv_bipush (v := -2) hx hb dX6_join_40 (by decide) ?_
          have hM := Option.some.inj hM
          subst hM
          rw [← hQ]
          exact on_iret hx hb hr hlk hP hD hS dX6_join_42
        · have hM := on_neg c_7 hM
          refine lv_iload hx hb dX6_join_30 (lv_at hl 4 rfl) ?_
          refine lv_iconst (v := 0) hx hb dX6_join_32 (by decide) ?_
          refine lv_iconst (v := 1) hx hb dX6_join_33 (by decide) ?_
          obtain ⟨q_8, hq_8, hM⟩ := on_bind hM
          refine on_callS0 (rest := []) (As := [.int v4, .int (0 : Int32), .int (1 : Int32)]) (st1 := [.int q_8]) ⟨hx, hb, hml, hown, hts⟩ (k_X6_in v4 (0 : Int32) (1 : Int32) q_8 hq_8) (va_cwS 3 hts gX6_join_X6_in rfl rfl rfl hdX6_in ⟨(Nat.le_of_ble_eq_true rfl), (Nat.le_of_ble_eq_true rfl)⟩) hK hN hP hD hS hA rfl hl.1 rfl (Nat.le_of_ble_eq_true rfl) rfl dX6_join_34 ⟨Nat.zero_le _, Nat.zero_le _⟩ (fun H locs hP hS => ?_)
          refine lv_if_ne (tgt := 43) hx hb dX6_join_37 (by decide) (fun c_9 => ?_) (fun c_9 => ?_)
          · have hM := on_neg c_9 hM
            refine lv_aload_n hx hb dX6_join_43 rfl (lv_at hl 0 rfl) ?_
            obtain ⟨q_10, hq_10, hM⟩ := on_bind hM
            refine on_callV (rest := []) (As := []) (st1 := [.int q_10]) (C := RX6) (ci := 6) (q0 := 0) (wc := [(h_t, .inr (6, [.ref h_t_state, .ref h_t_images, .ref h_t_isKept, .ref h_t_pad, .int t_said, .int t_leastSize, .int t_leastSet, .int t_found, .ref h_t_row, .ref h_t_isUsed, .ref h_t_table, .int t_rank, .long t_determinant])), (h_t_state, .inl (cI, 4, .inl t_state))]) (wr := []) (wc' := [(h_t, .inr (6, [.ref h_t_state, .ref h_t_images, .ref h_t_isKept, .ref h_t_pad, .int t_said, .int t_leastSize, .int t_leastSet, .int t_found, .ref h_t_row, .ref h_t_isUsed, .ref h_t_table, .int t_rank, .long t_determinant])), (h_t_state, .inl (cI, 4, .inl t_state))]) (wf := [(h_t, .inr (6, [.ref h_t_state, .ref h_t_images, .ref h_t_isKept, .ref h_t_pad, .int t_said, .int t_leastSize, .int t_leastSet, .int t_found, .ref h_t_row, .ref h_t_isUsed, .ref h_t_table, .int t_rank, .long t_determinant])), (h_t_state, .inl (cI, 4, .inl t_state))]) (rt := (some (.int q_10))) ⟨hx, hb, hml, hown, hts⟩ (k_X6_many h_t h_t_state h_t_images h_t_isKept h_t_pad h_t_row h_t_isUsed h_t_table t_said t_leastSize t_leastSet t_found t_rank t_determinant t_state q_10 hq_10) (cwV 0 hts gX6_join_X6_many rfl rfl rfl ⟨rfl, hdX6_many⟩ ⟨(Nat.le_of_ble_eq_true rfl), (Nat.le_of_ble_eq_true rfl)⟩) hK hN hP hD hS hA [0, 1] [] [0, 1] rfl rfl rfl rfl (by decide) rfl rfl rfl rfl rfl rfl hl.1 rfl (Nat.le_of_ble_eq_true rfl) rfl dX6_join_44 ⟨Nat.zero_le _, Nat.zero_le _⟩ (fun H locs hP hD hS => ?_)
            refine lv_iload_n hx hb dX6_join_47 rfl (lv_at hl 2 rfl) ?_
            refine lv_iload_n hx hb dX6_join_48 rfl (lv_at hl 3 rfl) ?_
            obtain ⟨q_11, hq_11, hM⟩ := on_bind hM
            refine on_callS0 (rest := []) (As := [.int q_10, .int v2, .int v3]) (st1 := [.int q_11]) ⟨hx, hb, hml, hown, hts⟩ (k_X6_valueOf q_10 v2 v3 q_11 hq_11) (va_cwS 3 hts gX6_join_X6_valueOf rfl rfl rfl hdX6_valueOf ⟨(Nat.le_of_ble_eq_true rfl), (Nat.le_of_ble_eq_true rfl)⟩) hK hN hP hD hS hA rfl hl.1 rfl (Nat.le_of_ble_eq_true rfl) rfl dX6_join_49 ⟨Nat.zero_le _, Nat.zero_le _⟩ (fun H locs hP hS => ?_)
            refine lv_istore (lv' := [(5, .int q_11), (0, .ref h_t), (1, .int v1), (2, .int v2), (3, .int v3), (4, .int v4)]) hx hb dX6_join_52 hl (by decide) rfl (fun ls hl => ?_)
            refine lv_aload_n hx hb dX6_join_54 rfl (lv_at hl 1 rfl) ?_
            refine va_get (D := D) (ci := 6) (v := .ref h_t_state) (C := RX6) (T := TX6) (N := 13) hx hb hts w2 hown hK hP 0 rfl rfl 0 (by decide) w1 (fun _ h9 => h9) rfl dX6_join_55 ?_
            refine lv_iconst (v := 1) hx hb dX6_join_58 (by decide) ?_
            refine lv_iload_n hx hb dX6_join_59 rfl (lv_at hl 2 rfl) ?_
            refine lv_iadd hx hb dX6_join_60 ?_
            refine lv_aload_n hx hb dX6_join_61 rfl (lv_at hl 1 rfl) ?_
            refine lv_iload_n hx hb dX6_join_62 rfl (lv_at hl 2 rfl) ?_
            obtain ⟨q_12, hq_12, hM⟩ := on_bind hM
            refine on_callV (rest := [.int ((1 : Int32) + v1), .ref h_t_state]) (As := [.int v1]) (st1 := [.int q_12, .int ((1 : Int32) + v1), .ref h_t_state]) (C := RX6) (ci := 6) (q0 := 0) (wc := [(h_t, .inr (6, [.ref h_t_state, .ref h_t_images, .ref h_t_isKept, .ref h_t_pad, .int t_said, .int t_leastSize, .int t_leastSet, .int t_found, .ref h_t_row, .ref h_t_isUsed, .ref h_t_table, .int t_rank, .long t_determinant])), (h_t_state, .inl (cI, 4, .inl t_state))]) (wr := []) (wc' := [(h_t, .inr (6, [.ref h_t_state, .ref h_t_images, .ref h_t_isKept, .ref h_t_pad, .int t_said, .int t_leastSize, .int t_leastSet, .int t_found, .ref h_t_row, .ref h_t_isUsed, .ref h_t_table, .int t_rank, .long t_determinant])), (h_t_state, .inl (cI, 4, .inl t_state))]) (wf := [(h_t, .inr (6, [.ref h_t_state, .ref h_t_images, .ref h_t_isKept, .ref h_t_pad, .int t_said, .int t_leastSize, .int t_leastSet, .int t_found, .ref h_t_row, .ref h_t_isUsed, .ref h_t_table, .int t_rank, .long t_determinant])), (h_t_state, .inl (cI, 4, .inl t_state))]) (rt := (some (.int q_12))) ⟨hx, hb, hml, hown, hts⟩ (k_X6_netOf h_t h_t_state h_t_images h_t_isKept h_t_pad h_t_row h_t_isUsed h_t_table t_said t_leastSize t_leastSet t_found t_rank t_determinant t_state v1 q_12 hq_12) (cwV 1 hts gX6_join_X6_netOf rfl rfl rfl ⟨rfl, hdX6_netOf⟩ ⟨(Nat.le_of_ble_eq_true rfl), (Nat.le_of_ble_eq_true rfl)⟩) hK hN hP hD hS hA [0, 1] [] [0, 1] rfl rfl rfl rfl (by decide) rfl rfl rfl rfl rfl rfl hl.1 rfl (Nat.le_of_ble_eq_true rfl) rfl dX6_join_63 ⟨Nat.zero_le _, Nat.zero_le _⟩ (fun H locs hP hD hS => ?_)
            refine lv_iload hx hb dX6_join_66 (lv_at hl 0 rfl) ?_
            refine lv_iconst (v := -1) hx hb dX6_join_68 (by decide) ?_
            refine lv_ixor hx hb dX6_join_69 ?_
            refine lv_iand hx hb dX6_join_70 ?_
            refine lv_iload hx hb dX6_join_71 (lv_at hl 5 rfl) ?_
            refine lv_iload hx hb dX6_join_73 (lv_at hl 0 rfl) ?_
            refine lv_imul hx hb dX6_join_75 ?_
            refine lv_iadd hx hb dX6_join_76 ?_
            obtain ⟨g_13, hM⟩ := on_gdE hM
            refine va_iast hx hb hK hP hD hS 1 0 rfl rfl (on_ixE g_13) dX6_join_77 (fun H locs hP hD hS => ?_)
            have hP : va_P D vwCl [(h_t, .inr (6, [.ref h_t_state, .ref h_t_images, .ref h_t_isKept, .ref h_t_pad, .int t_said, .int t_leastSize, .int t_leastSet, .int t_found, .ref h_t_row, .ref h_t_isUsed, .ref h_t_table, .int t_rank, .long t_determinant])), (h_t_state, .inl (cI, 4, .inl (upd t_state (Int32.toNatClampNeg ((1 : Int32) + v1)) ((q_12 &&& (q_11 ^^^ (-1 : Int32))) + (v4 * q_11)))))] H := hP
            have hD : va_D A [(h_t, .inr (6, [.ref h_t_state, .ref h_t_images, .ref h_t_isKept, .ref h_t_pad, .int t_said, .int t_leastSize, .int t_leastSet, .int t_found, .ref h_t_row, .ref h_t_isUsed, .ref h_t_table, .int t_rank, .long t_determinant])), (h_t_state, .inl (cI, 4, .inl (upd t_state (Int32.toNatClampNeg ((1 : Int32) + v1)) ((q_12 &&& (q_11 ^^^ (-1 : Int32))) + (v4 * q_11)))))] := hD
            refine lv_aload_n hx hb dX6_join_78 rfl (lv_at hl 1 rfl) ?_
            refine lv_iload_n hx hb dX6_join_79 rfl (lv_at hl 2 rfl) ?_
            obtain ⟨q_14, hq_14, hM⟩ := on_bind hM
            refine on_callV (rest := []) (As := [.int v1]) (st1 := [.int q_14]) (C := RX6) (ci := 6) (q0 := 0) (wc := [(h_t, .inr (6, [.ref h_t_state, .ref h_t_images, .ref h_t_isKept, .ref h_t_pad, .int t_said, .int t_leastSize, .int t_leastSet, .int t_found, .ref h_t_row, .ref h_t_isUsed, .ref h_t_table, .int t_rank, .long t_determinant])), (h_t_state, .inl (cI, 4, .inl (upd t_state (Int32.toNatClampNeg ((1 : Int32) + v1)) ((q_12 &&& (q_11 ^^^ (-1 : Int32))) + (v4 * q_11)))))]) (wr := []) (wc' := [(h_t, .inr (6, [.ref h_t_state, .ref h_t_images, .ref h_t_isKept, .ref h_t_pad, .int t_said, .int t_leastSize, .int t_leastSet, .int t_found, .ref h_t_row, .ref h_t_isUsed, .ref h_t_table, .int t_rank, .long t_determinant])), (h_t_state, .inl (cI, 4, .inl (upd t_state (Int32.toNatClampNeg ((1 : Int32) + v1)) ((q_12 &&& (q_11 ^^^ (-1 : Int32))) + (v4 * q_11)))))]) (wf := [(h_t, .inr (6, [.ref h_t_state, .ref h_t_images, .ref h_t_isKept, .ref h_t_pad, .int t_said, .int t_leastSize, .int t_leastSet, .int t_found, .ref h_t_row, .ref h_t_isUsed, .ref h_t_table, .int t_rank, .long t_determinant])), (h_t_state, .inl (cI, 4, .inl (upd t_state (Int32.toNatClampNeg ((1 : Int32) + v1)) ((q_12 &&& (q_11 ^^^ (-1 : Int32))) + (v4 * q_11)))))]) (rt := (some (.int q_14))) ⟨hx, hb, hml, hown, hts⟩ (k_X6_netOf h_t h_t_state h_t_images h_t_isKept h_t_pad h_t_row h_t_isUsed h_t_table t_said t_leastSize t_leastSet t_found t_rank t_determinant (upd t_state (Int32.toNatClampNeg ((1 : Int32) + v1)) ((q_12 &&& (q_11 ^^^ (-1 : Int32))) + (v4 * q_11))) v1 q_14 hq_14) (cwV 1 hts gX6_join_X6_netOf rfl rfl rfl ⟨rfl, hdX6_netOf⟩ ⟨(Nat.le_of_ble_eq_true rfl), (Nat.le_of_ble_eq_true rfl)⟩) hK hN hP hD hS hA [0, 1] [] [0, 1] rfl rfl rfl rfl (by decide) rfl rfl rfl rfl rfl rfl hl.1 rfl (Nat.le_of_ble_eq_true rfl) rfl dX6_join_80 ⟨Nat.zero_le _, Nat.zero_le _⟩ (fun H locs hP hD hS => ?_)
            obtain ⟨q_15, hq_15, hM⟩ := on_bind hM
            refine on_callS0 (rest := []) (As := [.int q_14]) (st1 := [.int q_15]) ⟨hx, hb, hml, hown, hts⟩ (k_X6_size q_14 q_15 hq_15) (va_cwS 1 hts gX6_join_X6_size rfl rfl rfl hdX6_size ⟨(Nat.le_of_ble_eq_true rfl), (Nat.le_of_ble_eq_true rfl)⟩) hK hN hP hD hS hA rfl hl.1 rfl (Nat.le_of_ble_eq_true rfl) rfl dX6_join_83 ⟨Nat.zero_le _, Nat.zero_le _⟩ (fun H locs hP hS => ?_)
            have hM := Option.some.inj hM
            subst hM
            rw [← hQ]
            exact on_iret hx hb hr hlk hP hD hS dX6_join_86
          · have hM := on_pos c_9 hM
            refine lv_bipush (v := -2) hx hb dX6_join_40 (by decide) ?_
            have hM := Option.some.inj hM
            subst hM
            rw [← hQ]
            exact on_iret hx hb hr hlk hP hD hS dX6_join_42
      · have hM := on_pos c_6 hM
        refine lv_iconst (v := -1) hx hb dX6_join_23 (by decide) ?_
        have hM := Option.some.inj hM
        subst hM
        rw [← hQ]
        exact on_iret hx hb hr hlk hP hD hS dX6_join_24
abbrev rm_X6_hold : Room := { frames := 0, cells := 0, slots := 0, locals := 0 }
set_option maxHeartbeats 4000000 in
set_option maxRecDepth 100000 in
theorem k_X6_hold {l : Launch} {D : va_G} {cI cJ cZ cS cA : ClassId} (h_t : Nat) (h_t_state : Nat) (h_t_images : Nat) (h_t_isKept : Nat) (h_t_pad : Nat) (h_t_row : Nat) (h_t_isUsed : Nat) (h_t_table : Nat) (t_said : Int32) (t_leastSize : Int32) (t_leastSet : Int32) (t_found : Int32) (t_rank : Int32) (t_determinant : Int64) (t_state : Nat → Int32) (v1 : Int32) (v2 : Int32) (out : Int32 × (Nat → Int32)) (hM : M_X6_hold v1 v2 t_state = some out) : on_Con l yX6_hold wsX6_hold rm_X6_hold [.ref h_t, .int v1, .int v2] D (on_T cI cJ cZ cS cA) [(h_t, .inr (6, [.ref h_t_state, .ref h_t_images, .ref h_t_isKept, .ref h_t_pad, .int t_said, .int t_leastSize, .int t_leastSet, .int t_found, .ref h_t_row, .ref h_t_isUsed, .ref h_t_table, .int t_rank, .long t_determinant])), (h_t_state, .inl (cI, 4, .inl t_state))] (some (.int out.1)) [(h_t, .inr (6, [.ref h_t_state, .ref h_t_images, .ref h_t_isKept, .ref h_t_pad, .int t_said, .int t_leastSize, .int t_leastSet, .int t_found, .ref h_t_row, .ref h_t_isUsed, .ref h_t_table, .int t_rank, .long t_determinant])), (h_t_state, .inl (cI, 4, .inl out.2))] := by
  unfold M_X6_hold at hM
  refine on_enter (cc := cX6_hold) (nL := 3) (rt := (some .int)) (own := RX6) (by decide +kernel) rfl rfl (Nat.le_of_ble_eq_true rfl) ?_
  intro p e s m below meth c A ls hx hb hml hr hlk hts hown hA hK hN H locs hP hD hS hl
  have hl : lv_has ls 3 [(0, .ref h_t), (1, .int v1), (2, .int v2)] := hl
  generalize hQ : MQ below (on_Q D (some (.int out.1)) [(h_t, .inr (6, [.ref h_t_state, .ref h_t_images, .ref h_t_isKept, .ref h_t_pad, .int t_said, .int t_leastSize, .int t_leastSet, .int t_found, .ref h_t_row, .ref h_t_isUsed, .ref h_t_table, .int t_rank, .long t_determinant])), (h_t_state, .inl (cI, 4, .inl out.2))] A) _ s 0 0 A = Q
  generalize hAr : List.toArray ([.ref h_t, .int v1, .int v2] : List Value) = args at hts hQ ⊢
  have w1 := hts (.fieldLink RX6 7 "OddNetsModel" "state" "[I") (by decide +kernel)
  have w2 : ∀ w ∈ wsX60, w ∈ wsX6_hold := by decide +kernel
  refine lv_aload_n hx hb dX6_hold_0 rfl (lv_at hl 0 rfl) ?_
  refine va_get (D := D) (ci := 6) (v := .ref h_t_state) (C := RX6) (T := TX6) (N := 13) hx hb hts w2 hown hK hP 0 rfl rfl 0 (by decide) w1 (fun _ h9 => h9) rfl dX6_hold_1 ?_
  refine lv_iconst (v := 1) hx hb dX6_hold_4 (by decide) ?_
  refine lv_iload_n hx hb dX6_hold_5 rfl (lv_at hl 1 rfl) ?_
  refine lv_iadd hx hb dX6_hold_6 ?_
  refine lv_iload_n hx hb dX6_hold_7 rfl (lv_at hl 2 rfl) ?_
  obtain ⟨g_1, hM⟩ := on_gdE hM
  refine va_iast hx hb hK hP hD hS 1 0 rfl rfl (on_ixE g_1) dX6_hold_8 (fun H locs hP hD hS => ?_)
  have hP : va_P D vwCl [(h_t, .inr (6, [.ref h_t_state, .ref h_t_images, .ref h_t_isKept, .ref h_t_pad, .int t_said, .int t_leastSize, .int t_leastSet, .int t_found, .ref h_t_row, .ref h_t_isUsed, .ref h_t_table, .int t_rank, .long t_determinant])), (h_t_state, .inl (cI, 4, .inl (upd t_state (Int32.toNatClampNeg ((1 : Int32) + v1)) v2)))] H := hP
  have hD : va_D A [(h_t, .inr (6, [.ref h_t_state, .ref h_t_images, .ref h_t_isKept, .ref h_t_pad, .int t_said, .int t_leastSize, .int t_leastSet, .int t_found, .ref h_t_row, .ref h_t_isUsed, .ref h_t_table, .int t_rank, .long t_determinant])), (h_t_state, .inl (cI, 4, .inl (upd t_state (Int32.toNatClampNeg ((1 : Int32) + v1)) v2)))] := hD
  refine lv_iload_n hx hb dX6_hold_9 rfl (lv_at hl 2 rfl) ?_
  have hM := Option.some.inj hM
  subst hM
  rw [← hQ]
  exact on_iret hx hb hr hlk hP hD hS dX6_hold_10
abbrev rm_X6_set : Room := { frames := 2, cells := 0, slots := 0, locals := 42 }
set_option maxHeartbeats 4000000 in
set_option maxRecDepth 100000 in
theorem k_X6_set {l : Launch} {D : va_G} {cI cJ cZ cS cA : ClassId} (h_t : Nat) (h_t_state : Nat) (h_t_images : Nat) (h_t_isKept : Nat) (h_t_pad : Nat) (h_t_row : Nat) (h_t_isUsed : Nat) (h_t_table : Nat) (t_said : Int32) (t_leastSize : Int32) (t_leastSet : Int32) (t_found : Int32) (t_rank : Int32) (t_determinant : Int64) (t_state : Nat → Int32) (v1 : Int32) (v2 : Int32) (out : Int32 × (Nat → Int32)) (hM : M_X6_set v1 v2 t_state = some out) : on_Con l yX6_set wsX6_set rm_X6_set [.ref h_t, .int v1, .int v2] D (on_T cI cJ cZ cS cA) [(h_t, .inr (6, [.ref h_t_state, .ref h_t_images, .ref h_t_isKept, .ref h_t_pad, .int t_said, .int t_leastSize, .int t_leastSet, .int t_found, .ref h_t_row, .ref h_t_isUsed, .ref h_t_table, .int t_rank, .long t_determinant])), (h_t_state, .inl (cI, 4, .inl t_state))] (some (.int out.1)) [(h_t, .inr (6, [.ref h_t_state, .ref h_t_images, .ref h_t_isKept, .ref h_t_pad, .int t_said, .int t_leastSize, .int t_leastSet, .int t_found, .ref h_t_row, .ref h_t_isUsed, .ref h_t_table, .int t_rank, .long t_determinant])), (h_t_state, .inl (cI, 4, .inl out.2))] := by
  unfold M_X6_set at hM
  refine on_enter (cc := cX6_set) (nL := 4) (rt := (some .int)) (own := RX6) (by decide +kernel) rfl rfl (Nat.le_of_ble_eq_true rfl) ?_
  intro p e s m below meth c A ls hx hb hml hr hlk hts hown hA hK hN H locs hP hD hS hl
  have hl : lv_has ls 4 [(0, .ref h_t), (1, .int v1), (2, .int v2)] := hl
  generalize hQ : MQ below (on_Q D (some (.int out.1)) [(h_t, .inr (6, [.ref h_t_state, .ref h_t_images, .ref h_t_isKept, .ref h_t_pad, .int t_said, .int t_leastSize, .int t_leastSet, .int t_found, .ref h_t_row, .ref h_t_isUsed, .ref h_t_table, .int t_rank, .long t_determinant])), (h_t_state, .inl (cI, 4, .inl out.2))] A) _ s 0 0 A = Q
  generalize hAr : List.toArray ([.ref h_t, .int v1, .int v2] : List Value) = args at hts hQ ⊢
  have w1 := hts (.fieldLink RX6 7 "OddNetsModel" "state" "[I") (by decide +kernel)
  have w2 : ∀ w ∈ wsX60, w ∈ wsX6_set := by decide +kernel
  refine lv_iload_n hx hb dX6_set_0 rfl (lv_at hl 1 rfl) ?_
  obtain ⟨q_1, hq_1, hM⟩ := on_bind hM
  refine on_callS0 (rest := []) (As := [.int v1]) (st1 := [.int q_1]) ⟨hx, hb, hml, hown, hts⟩ (k_X6_isSlot v1 q_1 hq_1) (va_cwS 1 hts gX6_set_X6_isSlot rfl rfl rfl hdX6_isSlot ⟨(Nat.le_of_ble_eq_true rfl), (Nat.le_of_ble_eq_true rfl)⟩) hK hN hP hD hS hA rfl hl.1 rfl (Nat.le_of_ble_eq_true rfl) rfl dX6_set_1 ⟨Nat.zero_le _, Nat.zero_le _⟩ (fun H locs hP hS => ?_)
  refine lv_if_ne (tgt := 9) hx hb dX6_set_4 (by decide) (fun c_2 => ?_) (fun c_2 => ?_)
  · have hM := on_neg c_2 hM
    refine lv_iload_n hx hb dX6_set_9 rfl (lv_at hl 2 rfl) ?_
    refine lv_iconst (v := 0) hx hb dX6_set_10 (by decide) ?_
    refine lv_iconst (v := 1) hx hb dX6_set_11 (by decide) ?_
    refine lv_aload_n hx hb dX6_set_12 rfl (lv_at hl 0 rfl) ?_
    obtain ⟨q_3, hq_3, hM⟩ := on_bind hM
    refine on_callV (rest := [.int (1 : Int32), .int (0 : Int32), .int v2]) (As := []) (st1 := [.int q_3, .int (1 : Int32), .int (0 : Int32), .int v2]) (C := RX6) (ci := 6) (q0 := 0) (wc := [(h_t, .inr (6, [.ref h_t_state, .ref h_t_images, .ref h_t_isKept, .ref h_t_pad, .int t_said, .int t_leastSize, .int t_leastSet, .int t_found, .ref h_t_row, .ref h_t_isUsed, .ref h_t_table, .int t_rank, .long t_determinant])), (h_t_state, .inl (cI, 4, .inl t_state))]) (wr := []) (wc' := [(h_t, .inr (6, [.ref h_t_state, .ref h_t_images, .ref h_t_isKept, .ref h_t_pad, .int t_said, .int t_leastSize, .int t_leastSet, .int t_found, .ref h_t_row, .ref h_t_isUsed, .ref h_t_table, .int t_rank, .long t_determinant])), (h_t_state, .inl (cI, 4, .inl t_state))]) (wf := [(h_t, .inr (6, [.ref h_t_state, .ref h_t_images, .ref h_t_isKept, .ref h_t_pad, .int t_said, .int t_leastSize, .int t_leastSet, .int t_found, .ref h_t_row, .ref h_t_isUsed, .ref h_t_table, .int t_rank, .long t_determinant])), (h_t_state, .inl (cI, 4, .inl t_state))]) (rt := (some (.int q_3))) ⟨hx, hb, hml, hown, hts⟩ (k_X6_many h_t h_t_state h_t_images h_t_isKept h_t_pad h_t_row h_t_isUsed h_t_table t_said t_leastSize t_leastSet t_found t_rank t_determinant t_state q_3 hq_3) (cwV 0 hts gX6_set_X6_many rfl rfl rfl ⟨rfl, hdX6_many⟩ ⟨(Nat.le_of_ble_eq_true rfl), (Nat.le_of_ble_eq_true rfl)⟩) hK hN hP hD hS hA [0, 1] [] [0, 1] rfl rfl rfl rfl (by decide) rfl rfl rfl rfl rfl rfl hl.1 rfl (Nat.le_of_ble_eq_true rfl) rfl dX6_set_13 ⟨Nat.zero_le _, Nat.zero_le _⟩ (fun H locs hP hD hS => ?_)
    obtain ⟨q_4, hq_4, hM⟩ := on_bind hM
    refine on_callS0 (rest := [.int (1 : Int32), .int (0 : Int32), .int v2]) (As := [.int q_3]) (st1 := [.int q_4, .int (1 : Int32), .int (0 : Int32), .int v2]) ⟨hx, hb, hml, hown, hts⟩ (k_X6_pairs q_3 q_4 hq_4) (va_cwS 1 hts gX6_set_X6_pairs rfl rfl rfl hdX6_pairs ⟨(Nat.le_of_ble_eq_true rfl), (Nat.le_of_ble_eq_true rfl)⟩) hK hN hP hD hS hA rfl hl.1 rfl (Nat.le_of_ble_eq_true rfl) rfl dX6_set_16 ⟨Nat.zero_le _, Nat.zero_le _⟩ (fun H locs hP hS => ?_)
    refine lv_ishl hx hb dX6_set_19 ?_
    refine lv_iconst (v := 1) hx hb dX6_set_20 (by decide) ?_
    refine lv_isub hx hb dX6_set_21 ?_
    obtain ⟨q_5, hq_5, hM⟩ := on_bind hM
    refine on_callS0 (rest := []) (As := [.int v2, .int (0 : Int32), .int (((1 : Int32) <<< (q_4 &&& 31)) - (1 : Int32))]) (st1 := [.int q_5]) ⟨hx, hb, hml, hown, hts⟩ (k_X6_in v2 (0 : Int32) (((1 : Int32) <<< (q_4 &&& 31)) - (1 : Int32)) q_5 hq_5) (va_cwS 3 hts gX6_set_X6_in rfl rfl rfl hdX6_in ⟨(Nat.le_of_ble_eq_true rfl), (Nat.le_of_ble_eq_true rfl)⟩) hK hN hP hD hS hA rfl hl.1 rfl (Nat.le_of_ble_eq_true rfl) rfl dX6_set_22 ⟨Nat.zero_le _, Nat.zero_le _⟩ (fun H locs hP hS => ?_)
    refine lv_if_ne (tgt := 31) hx hb dX6_set_25 (by decide) (fun c_6 => ?_) (fun c_6 => ?_)
    · have hM := on_neg c_6 hM
      refine lv_aload_n hx hb dX6_set_31 rfl (lv_at hl 0 rfl) ?_
      refine lv_iload_n hx hb dX6_set_32 rfl (lv_at hl 1 rfl) ?_
      obtain ⟨q_7, hq_7, hM⟩ := on_bind hM
      refine on_callV (rest := []) (As := [.int v1]) (st1 := [.int q_7]) (C := RX6) (ci := 6) (q0 := 0) (wc := [(h_t, .inr (6, [.ref h_t_state, .ref h_t_images, .ref h_t_isKept, .ref h_t_pad, .int t_said, .int t_leastSize, .int t_leastSet, .int t_found, .ref h_t_row, .ref h_t_isUsed, .ref h_t_table, .int t_rank, .long t_determinant])), (h_t_state, .inl (cI, 4, .inl t_state))]) (wr := []) (wc' := [(h_t, .inr (6, [.ref h_t_state, .ref h_t_images, .ref h_t_isKept, .ref h_t_pad, .int t_said, .int t_leastSize, .int t_leastSet, .int t_found, .ref h_t_row, .ref h_t_isUsed, .ref h_t_table, .int t_rank, .long t_determinant])), (h_t_state, .inl (cI, 4, .inl t_state))]) (wf := [(h_t, .inr (6, [.ref h_t_state, .ref h_t_images, .ref h_t_isKept, .ref h_t_pad, .int t_said, .int t_leastSize, .int t_leastSet, .int t_found, .ref h_t_row, .ref h_t_isUsed, .ref h_t_table, .int t_rank, .long t_determinant])), (h_t_state, .inl (cI, 4, .inl t_state))]) (rt := (some (.int q_7))) ⟨hx, hb, hml, hown, hts⟩ (k_X6_netOf h_t h_t_state h_t_images h_t_isKept h_t_pad h_t_row h_t_isUsed h_t_table t_said t_leastSize t_leastSet t_found t_rank t_determinant t_state v1 q_7 hq_7) (cwV 1 hts gX6_set_X6_netOf rfl rfl rfl ⟨rfl, hdX6_netOf⟩ ⟨(Nat.le_of_ble_eq_true rfl), (Nat.le_of_ble_eq_true rfl)⟩) hK hN hP hD hS hA [0, 1] [] [0, 1] rfl rfl rfl rfl (by decide) rfl rfl rfl rfl rfl rfl hl.1 rfl (Nat.le_of_ble_eq_true rfl) rfl dX6_set_33 ⟨Nat.zero_le _, Nat.zero_le _⟩ (fun H locs hP hD hS => ?_)
      refine lv_istore_n (lv' := [(3, .int q_7), (0, .ref h_t), (1, .int v1), (2, .int v2)]) hx hb dX6_set_36 rfl hl (by decide) rfl (fun ls hl => ?_)
      refine lv_aload_n hx hb dX6_set_37 rfl (lv_at hl 1 rfl) ?_
      refine va_get (D := D) (ci := 6) (v := .ref h_t_state) (C := RX6) (T := TX6) (N := 13) hx hb hts w2 hown hK hP 0 rfl rfl 0 (by decide) w1 (fun _ h9 => h9) rfl dX6_set_38 ?_
      refine lv_iconst (v := 1) hx hb dX6_set_41 (by decide) ?_
      refine lv_iload_n hx hb dX6_set_42 rfl (lv_at hl 2 rfl) ?_
      refine lv_iadd hx hb dX6_set_43 ?_
      refine lv_iload_n hx hb dX6_set_44 rfl (lv_at hl 3 rfl) ?_
      obtain ⟨g_8, hM⟩ := on_gdE hM
      refine va_iast hx hb hK hP hD hS 1 0 rfl rfl (on_ixE g_8) dX6_set_45 (fun H locs hP hD hS => ?_)
      have hP : va_P D vwCl [(h_t, .inr (6, [.ref h_t_state, .ref h_t_images, .ref h_t_isKept, .ref h_t_pad, .int t_said, .int t_leastSize, .int t_leastSet, .int t_found, .ref h_t_row, .ref h_t_isUsed, .ref h_t_table, .int t_rank, .long t_determinant])), (h_t_state, .inl (cI, 4, .inl (upd t_state (Int32.toNatClampNeg ((1 : Int32) + v1)) v2)))] H := hP
      have hD : va_D A [(h_t, .inr (6, [.ref h_t_state, .ref h_t_images, .ref h_t_isKept, .ref h_t_pad, .int t_said, .int t_leastSize, .int t_leastSet, .int t_found, .ref h_t_row, .ref h_t_isUsed, .ref h_t_table, .int t_rank, .long t_determinant])), (h_t_state, .inl (cI, 4, .inl (upd t_state (Int32.toNatClampNeg ((1 : Int32) + v1)) v2)))] := hD
      refine lv_iload_n hx hb dX6_set_46 rfl (lv_at hl 0 rfl) ?_
      have hM := Option.some.inj hM
      subst hM
      rw [← hQ]
      exact on_iret hx hb hr hlk hP hD hS dX6_set_47
    · have hM := on_pos c_6 hM
      refine lv_bipush (v := -2) hx hb dX6_set_28 (by decide) ?_
      have hM := Option.some.inj hM
      subst hM
      rw [← hQ]
      exact on_iret hx hb hr hlk hP hD hS dX6_set_30
  · have hM := on_pos c_2 hM
    refine lv_iconst (v := -1) hx hb dX6_set_7 (by decide) ?_
    have hM := Option.some.inj hM
    subst hM
    rw [← hQ]
    exact on_iret hx hb hr hlk hP hD hS dX6_set_8
abbrev rm_X6_say : Room := { frames := 1, cells := 0, slots := 0, locals := 22 }
set_option maxHeartbeats 4000000 in
set_option maxRecDepth 100000 in
theorem k_X6_say {l : Launch} {D : va_G} {cI cJ cZ cS cA : ClassId} (h_t : Nat) (h_t_state : Nat) (h_t_images : Nat) (h_t_isKept : Nat) (h_t_pad : Nat) (h_t_row : Nat) (h_t_isUsed : Nat) (h_t_table : Nat) (t_said : Int32) (t_leastSize : Int32) (t_leastSet : Int32) (t_found : Int32) (t_rank : Int32) (t_determinant : Int64) (t_pad : Nat → Int32) (v1 : Int32) (out : Int32 × Int32 × (Nat → Int32)) (hM : M_X6_say v1 t_said t_pad = some out) : on_Con l yX6_say wsX6_say rm_X6_say [.ref h_t, .int v1] D (on_T cI cJ cZ cS cA) [(h_t, .inr (6, [.ref h_t_state, .ref h_t_images, .ref h_t_isKept, .ref h_t_pad, .int t_said, .int t_leastSize, .int t_leastSet, .int t_found, .ref h_t_row, .ref h_t_isUsed, .ref h_t_table, .int t_rank, .long t_determinant])), (h_t_pad, .inl (cI, 35, .inl t_pad))] (some (.int out.1)) [(h_t, .inr (6, [.ref h_t_state, .ref h_t_images, .ref h_t_isKept, .ref h_t_pad, .int out.2.1, .int t_leastSize, .int t_leastSet, .int t_found, .ref h_t_row, .ref h_t_isUsed, .ref h_t_table, .int t_rank, .long t_determinant])), (h_t_pad, .inl (cI, 35, .inl out.2.2))] := by
  unfold M_X6_say at hM
  refine on_enter (cc := cX6_say) (nL := 2) (rt := (some .int)) (own := RX6) (by decide +kernel) rfl rfl (Nat.le_of_ble_eq_true rfl) ?_
  intro p e s m below meth c A ls hx hb hml hr hlk hts hown hA hK hN H locs hP hD hS hl
  have hl : lv_has ls 2 [(0, .ref h_t), (1, .int v1)] := hl
  generalize hQ : MQ below (on_Q D (some (.int out.1)) [(h_t, .inr (6, [.ref h_t_state, .ref h_t_images, .ref h_t_isKept, .ref h_t_pad, .int out.2.1, .int t_leastSize, .int t_leastSet, .int t_found, .ref h_t_row, .ref h_t_isUsed, .ref h_t_table, .int t_rank, .long t_determinant])), (h_t_pad, .inl (cI, 35, .inl out.2.2))] A) _ s 0 0 A = Q
  generalize hAr : List.toArray ([.ref h_t, .int v1] : List Value) = args at hts hQ ⊢
  have w1 := hts (.fieldLink RX6 82 "OddNetsModel" "said" "I") (by decide +kernel)
  have w2 : ∀ w ∈ wsX60, w ∈ wsX6_say := by decide +kernel
  have w3 := hts (.fieldLink RX6 20 "OddNetsModel" "pad" "[I") (by decide +kernel)
  refine lv_iload_n hx hb dX6_say_0 rfl (lv_at hl 1 rfl) ?_
  refine lv_bipush (v := 33) hx hb dX6_say_1 (by decide) ?_
  refine lv_bipush (v := 126) hx hb dX6_say_3 (by decide) ?_
  obtain ⟨q_1, hq_1, hM⟩ := on_bind hM
  refine on_callS0 (rest := []) (As := [.int v1, .int (33 : Int32), .int (126 : Int32)]) (st1 := [.int q_1]) ⟨hx, hb, hml, hown, hts⟩ (k_X6_in v1 (33 : Int32) (126 : Int32) q_1 hq_1) (va_cwS 3 hts gX6_say_X6_in rfl rfl rfl hdX6_in ⟨(Nat.le_of_ble_eq_true rfl), (Nat.le_of_ble_eq_true rfl)⟩) hK hN hP hD hS hA rfl hl.1 rfl (Nat.le_of_ble_eq_true rfl) rfl dX6_say_5 ⟨Nat.zero_le _, Nat.zero_le _⟩ (fun H locs hP hS => ?_)
  refine lv_if_ne (tgt := 14) hx hb dX6_say_8 (by decide) (fun c_2 => ?_) (fun c_2 => ?_)
  · have hM := on_neg c_2 hM
    refine lv_aload_n hx hb dX6_say_14 rfl (lv_at hl 0 rfl) ?_
    refine va_get (D := D) (ci := 6) (v := .int t_said) (C := RX6) (T := TX6) (N := 13) hx hb hts w2 hown hK hP 0 rfl rfl 4 (by decide) w1 (fun _ h9 => h9) rfl dX6_say_15 ?_
    refine lv_bipush (v := 35) hx hb dX6_say_18 (by decide) ?_
    refine lv_icmp_ne (tgt := 26) hx hb dX6_say_20 (by decide) (fun c_3 => ?_) (fun c_3 => ?_)
    · have hM := on_neg c_3 hM
      refine lv_aload_n hx hb dX6_say_26 rfl (lv_at hl 0 rfl) ?_
      refine va_get (D := D) (ci := 6) (v := .ref h_t_pad) (C := RX6) (T := TX6) (N := 13) hx hb hts w2 hown hK hP 0 rfl rfl 3 (by decide) w3 (fun _ h9 => h9) rfl dX6_say_27 ?_
      refine lv_aload_n hx hb dX6_say_30 rfl (lv_at hl 0 rfl) ?_
      refine va_get (D := D) (ci := 6) (v := .int t_said) (C := RX6) (T := TX6) (N := 13) hx hb hts w2 hown hK hP 0 rfl rfl 4 (by decide) w1 (fun _ h9 => h9) rfl dX6_say_31 ?_
      refine lv_iload_n hx hb dX6_say_34 rfl (lv_at hl 1 rfl) ?_
      obtain ⟨g_4, hM⟩ := on_gdE hM
      refine va_iast hx hb hK hP hD hS 1 0 rfl rfl (on_ixE g_4) dX6_say_35 (fun H locs hP hD hS => ?_)
      have hP : va_P D vwCl [(h_t, .inr (6, [.ref h_t_state, .ref h_t_images, .ref h_t_isKept, .ref h_t_pad, .int t_said, .int t_leastSize, .int t_leastSet, .int t_found, .ref h_t_row, .ref h_t_isUsed, .ref h_t_table, .int t_rank, .long t_determinant])), (h_t_pad, .inl (cI, 35, .inl (upd t_pad (Int32.toNatClampNeg t_said) v1)))] H := hP
      have hD : va_D A [(h_t, .inr (6, [.ref h_t_state, .ref h_t_images, .ref h_t_isKept, .ref h_t_pad, .int t_said, .int t_leastSize, .int t_leastSet, .int t_found, .ref h_t_row, .ref h_t_isUsed, .ref h_t_table, .int t_rank, .long t_determinant])), (h_t_pad, .inl (cI, 35, .inl (upd t_pad (Int32.toNatClampNeg t_said) v1)))] := hD
      refine lv_aload_n hx hb dX6_say_36 rfl (lv_at hl 0 rfl) ?_
      refine lv_dup hx hb dX6_say_37 rfl ?_
      refine va_get (D := D) (ci := 6) (v := .int t_said) (C := RX6) (T := TX6) (N := 13) hx hb hts w2 hown hK hP 0 rfl rfl 4 (by decide) w1 (fun _ h9 => h9) rfl dX6_say_38 ?_
      refine lv_iconst (v := 1) hx hb dX6_say_41 (by decide) ?_
      refine lv_iadd hx hb dX6_say_42 ?_
      refine lv_topi (fun t_said_5 et_said_5 => ?_)
      have hM := on_letE et_said_5 hM
      refine va_put (D := D) (ci := 6) (v := .int t_said_5) (ty := .int) (C := RX6) (T := TX6) (N := 13) hx hb hts w2 tyX6 tyX6_ok nmX6 hown hK hP hD hS 0 rfl rfl 4 (by decide) w1 (fun _ h9 => h9) rfl (by decide +kernel) rfl rfl (Nat.le_of_ble_eq_true rfl) dX6_say_43 (fun H locs hP hD hS => ?_)
      have hP : va_P D vwCl [(h_t, .inr (6, [.ref h_t_state, .ref h_t_images, .ref h_t_isKept, .ref h_t_pad, .int t_said_5, .int t_leastSize, .int t_leastSet, .int t_found, .ref h_t_row, .ref h_t_isUsed, .ref h_t_table, .int t_rank, .long t_determinant])), (h_t_pad, .inl (cI, 35, .inl (upd t_pad (Int32.toNatClampNeg t_said) v1)))] H := hP
      have hD : va_D A [(h_t, .inr (6, [.ref h_t_state, .ref h_t_images, .ref h_t_isKept, .ref h_t_pad, .int t_said_5, .int t_leastSize, .int t_leastSet, .int t_found, .ref h_t_row, .ref h_t_isUsed, .ref h_t_table, .int t_rank, .long t_determinant])), (h_t_pad, .inl (cI, 35, .inl (upd t_pad (Int32.toNatClampNeg t_said) v1)))] := hD
      refine lv_aload_n hx hb dX6_say_46 rfl (lv_at hl 0 rfl) ?_
      refine va_get (D := D) (ci := 6) (v := .int t_said_5) (C := RX6) (T := TX6) (N := 13) hx hb hts w2 hown hK hP 0 rfl rfl 4 (by decide) w1 (fun _ h9 => h9) rfl dX6_say_47 ?_
      have hM := Option.some.inj hM
      subst hM
      rw [← hQ]
      exact on_iret hx hb hr hlk hP hD hS dX6_say_50
    · have hM := on_pos c_3 hM
      refine lv_bipush (v := -4) hx hb dX6_say_23 (by decide) ?_
      have hM := Option.some.inj hM
      subst hM
      rw [← hQ]
      exact on_iret hx hb hr hlk hP hD hS dX6_say_25
  · have hM := on_pos c_2 hM
    refine lv_bipush (v := -2) hx hb dX6_say_11 (by decide) ?_
    have hM := Option.some.inj hM
    subst hM
    rw [← hQ]
    exact on_iret hx hb hr hlk hP hD hS dX6_say_13
abbrev rm_X6_wipe : Room := { frames := 0, cells := 0, slots := 0, locals := 0 }
set_option maxHeartbeats 4000000 in
set_option maxRecDepth 100000 in
theorem k_X6_wipe {l : Launch} {D : va_G} {cI cJ cZ cS cA : ClassId} (h_t : Nat) (h_t_state : Nat) (h_t_images : Nat) (h_t_isKept : Nat) (h_t_pad : Nat) (h_t_row : Nat) (h_t_isUsed : Nat) (h_t_table : Nat) (t_said : Int32) (t_leastSize : Int32) (t_leastSet : Int32) (t_found : Int32) (t_rank : Int32) (t_determinant : Int64)  (out : Int32 × Int32) (hM : M_X6_wipe t_said = some out) : on_Con l yX6_wipe wsX6_wipe rm_X6_wipe [.ref h_t] D (on_T cI cJ cZ cS cA) [(h_t, .inr (6, [.ref h_t_state, .ref h_t_images, .ref h_t_isKept, .ref h_t_pad, .int t_said, .int t_leastSize, .int t_leastSet, .int t_found, .ref h_t_row, .ref h_t_isUsed, .ref h_t_table, .int t_rank, .long t_determinant]))] (some (.int out.1)) [(h_t, .inr (6, [.ref h_t_state, .ref h_t_images, .ref h_t_isKept, .ref h_t_pad, .int out.2, .int t_leastSize, .int t_leastSet, .int t_found, .ref h_t_row, .ref h_t_isUsed, .ref h_t_table, .int t_rank, .long t_determinant]))] := by
  unfold M_X6_wipe at hM
  refine on_enter (cc := cX6_wipe) (nL := 2) (rt := (some .int)) (own := RX6) (by decide +kernel) rfl rfl (Nat.le_of_ble_eq_true rfl) ?_
  intro p e s m below meth c A ls hx hb hml hr hlk hts hown hA hK hN H locs hP hD hS hl
  have hl : lv_has ls 2 [(0, .ref h_t)] := hl
  generalize hQ : MQ below (on_Q D (some (.int out.1)) [(h_t, .inr (6, [.ref h_t_state, .ref h_t_images, .ref h_t_isKept, .ref h_t_pad, .int out.2, .int t_leastSize, .int t_leastSet, .int t_found, .ref h_t_row, .ref h_t_isUsed, .ref h_t_table, .int t_rank, .long t_determinant]))] A) _ s 0 0 A = Q
  generalize hAr : List.toArray ([.ref h_t] : List Value) = args at hts hQ ⊢
  have w1 := hts (.fieldLink RX6 82 "OddNetsModel" "said" "I") (by decide +kernel)
  have w2 : ∀ w ∈ wsX60, w ∈ wsX6_wipe := by decide +kernel
  refine lv_aload_n hx hb dX6_wipe_0 rfl (lv_at hl 0 rfl) ?_
  refine va_get (D := D) (ci := 6) (v := .int t_said) (C := RX6) (T := TX6) (N := 13) hx hb hts w2 hown hK hP 0 rfl rfl 4 (by decide) w1 (fun _ h9 => h9) rfl dX6_wipe_1 ?_
  refine lv_istore_n (lv' := [(1, .int t_said), (0, .ref h_t)]) hx hb dX6_wipe_4 rfl hl (by decide) rfl (fun ls hl => ?_)
  refine lv_aload_n hx hb dX6_wipe_5 rfl (lv_at hl 1 rfl) ?_
  refine lv_iconst (v := 0) hx hb dX6_wipe_6 (by decide) ?_
  refine va_put (D := D) (ci := 6) (v := .int (0 : Int32)) (ty := .int) (C := RX6) (T := TX6) (N := 13) hx hb hts w2 tyX6 tyX6_ok nmX6 hown hK hP hD hS 0 rfl rfl 4 (by decide) w1 (fun _ h9 => h9) rfl (by decide +kernel) rfl rfl (Nat.le_of_ble_eq_true rfl) dX6_wipe_7 (fun H locs hP hD hS => ?_)
  have hP : va_P D vwCl [(h_t, .inr (6, [.ref h_t_state, .ref h_t_images, .ref h_t_isKept, .ref h_t_pad, .int (0 : Int32), .int t_leastSize, .int t_leastSet, .int t_found, .ref h_t_row, .ref h_t_isUsed, .ref h_t_table, .int t_rank, .long t_determinant]))] H := hP
  have hD : va_D A [(h_t, .inr (6, [.ref h_t_state, .ref h_t_images, .ref h_t_isKept, .ref h_t_pad, .int (0 : Int32), .int t_leastSize, .int t_leastSet, .int t_found, .ref h_t_row, .ref h_t_isUsed, .ref h_t_table, .int t_rank, .long t_determinant]))] := hD
  refine lv_iload_n hx hb dX6_wipe_10 rfl (lv_at hl 0 rfl) ?_
  have hM := Option.some.inj hM
  subst hM
  rw [← hQ]
  exact on_iret hx hb hr hlk hP hD hS dX6_wipe_11
abbrev rm_X6_faultAs : Room := { frames := 1, cells := 0, slots := 0, locals := 22 }
set_option maxHeartbeats 4000000 in
set_option maxRecDepth 100000 in
theorem k_X6_faultAs {l : Launch} {D : va_G} {cI cJ cZ cS cA : ClassId} (h_t : Nat) (h_t_state : Nat) (h_t_images : Nat) (h_t_isKept : Nat) (h_t_pad : Nat) (h_t_row : Nat) (h_t_isUsed : Nat) (h_t_table : Nat) (t_said : Int32) (t_leastSize : Int32) (t_leastSet : Int32) (t_found : Int32) (t_rank : Int32) (t_determinant : Int64) (t_state : Nat → Int32) (t_pad : Nat → Int32) (v1 : Int32) (out : Int32) (hM : M_X6_faultAs v1 t_said t_state t_pad = some out) : on_Con l yX6_faultAs wsX6_faultAs rm_X6_faultAs [.ref h_t, .int v1] D (on_T cI cJ cZ cS cA) [(h_t, .inr (6, [.ref h_t_state, .ref h_t_images, .ref h_t_isKept, .ref h_t_pad, .int t_said, .int t_leastSize, .int t_leastSet, .int t_found, .ref h_t_row, .ref h_t_isUsed, .ref h_t_table, .int t_rank, .long t_determinant])), (h_t_state, .inl (cI, 4, .inl t_state)), (h_t_pad, .inl (cI, 35, .inl t_pad))] (some (.int out)) [(h_t, .inr (6, [.ref h_t_state, .ref h_t_images, .ref h_t_isKept, .ref h_t_pad, .int t_said, .int t_leastSize, .int t_leastSet, .int t_found, .ref h_t_row, .ref h_t_isUsed, .ref h_t_table, .int t_rank, .long t_determinant])), (h_t_state, .inl (cI, 4, .inl t_state)), (h_t_pad, .inl (cI, 35, .inl t_pad))] := by
  unfold M_X6_faultAs at hM
  refine on_enter (cc := cX6_faultAs) (nL := 4) (rt := (some .int)) (own := RX6) (by decide +kernel) rfl rfl (Nat.le_of_ble_eq_true rfl) ?_
  intro p e s m below meth c A ls hx hb hml hr hlk hts hown hA hK hN H locs hP hD hS hl
  have hl : lv_has ls 4 [(0, .ref h_t), (1, .int v1)] := hl
  generalize hQ : MQ below (on_Q D (some (.int out)) [(h_t, .inr (6, [.ref h_t_state, .ref h_t_images, .ref h_t_isKept, .ref h_t_pad, .int t_said, .int t_leastSize, .int t_leastSet, .int t_found, .ref h_t_row, .ref h_t_isUsed, .ref h_t_table, .int t_rank, .long t_determinant])), (h_t_state, .inl (cI, 4, .inl t_state)), (h_t_pad, .inl (cI, 35, .inl t_pad))] A) _ s 0 0 A = Q
  generalize hAr : List.toArray ([.ref h_t, .int v1] : List Value) = args at hts hQ ⊢
  have w1 := hts (.fieldLink RX6 82 "OddNetsModel" "said" "I") (by decide +kernel)
  have w2 : ∀ w ∈ wsX60, w ∈ wsX6_faultAs := by decide +kernel
  have w3 := hts (.fieldLink RX6 20 "OddNetsModel" "pad" "[I") (by decide +kernel)
  have lp_24 : ∀ (v2 : Int32), ∀ (n : Nat) (v3 : Int32) (x : Int32 ⊕ Unit), on_loop (fun (s : Int32) => B_X6_faultAs_24 v2 t_said t_pad s) n v3 = some x → (∀ u, x = Sum.inr u → ∀ (H : Heap) (locs : List Loc), va_P D vwCl [(h_t, .inr (6, [.ref h_t_state, .ref h_t_images, .ref h_t_isKept, .ref h_t_pad, .int t_said, .int t_leastSize, .int t_leastSet, .int t_found, .ref h_t_row, .ref h_t_isUsed, .ref h_t_table, .int t_rank, .long t_determinant])), (h_t_state, .inl (cI, 4, .inl t_state)), (h_t_pad, .inl (cI, 35, .inl t_pad))] H → va_D A [(h_t, .inr (6, [.ref h_t_state, .ref h_t_images, .ref h_t_isKept, .ref h_t_pad, .int t_said, .int t_leastSize, .int t_leastSet, .int t_found, .ref h_t_row, .ref h_t_isUsed, .ref h_t_table, .int t_rank, .long t_determinant])), (h_t_state, .inl (cI, 4, .inl t_state)), (h_t_pad, .inl (cI, 35, .inl t_pad))] → va_S A s.heap H locs → ∀ ls : Array Slot, lv_has ls 4 [(0, .ref h_t), (2, .int v2)] → W p l e rm_X6_faultAs s m args below meth c H locs 0 0 Q (F0 m 61 ls [])) → (∀ o, x = Sum.inl o → o = out) → ∀ (H : Heap) (locs : List Loc), va_P D vwCl [(h_t, .inr (6, [.ref h_t_state, .ref h_t_images, .ref h_t_isKept, .ref h_t_pad, .int t_said, .int t_leastSize, .int t_leastSet, .int t_found, .ref h_t_row, .ref h_t_isUsed, .ref h_t_table, .int t_rank, .long t_determinant])), (h_t_state, .inl (cI, 4, .inl t_state)), (h_t_pad, .inl (cI, 35, .inl t_pad))] H → va_D A [(h_t, .inr (6, [.ref h_t_state, .ref h_t_images, .ref h_t_isKept, .ref h_t_pad, .int t_said, .int t_leastSize, .int t_leastSet, .int t_found, .ref h_t_row, .ref h_t_isUsed, .ref h_t_table, .int t_rank, .long t_determinant])), (h_t_state, .inl (cI, 4, .inl t_state)), (h_t_pad, .inl (cI, 35, .inl t_pad))] → va_S A s.heap H locs → ∀ ls : Array Slot, lv_has ls 4 [(0, .ref h_t), (2, .int v2), (3, .int v3)] → W p l e rm_X6_faultAs s m args below meth c H locs 0 0 Q (F0 m 24 ls []) := by
    intro v2
    intro n
    induction n with
    | zero =>
      intro v3 x hL
      exact (on_loop0 hL).elim
    | succ n ih =>
      intro v3 x hL K1 K2 H locs hP hD hS ls hl
      obtain ⟨y, hM, hk⟩ := on_loopE hL
      have hM : B_X6_faultAs_24 v2 t_said t_pad v3 = some y := hM
      unfold B_X6_faultAs_24 at hM
      refine lv_iload_n hx hb dX6_faultAs_24 rfl (lv_at hl 2 rfl) ?_
      refine lv_aload_n hx hb dX6_faultAs_25 rfl (lv_at hl 0 rfl) ?_
      refine va_get (D := D) (ci := 6) (v := .int t_said) (C := RX6) (T := TX6) (N := 13) hx hb hts w2 hown hK hP 0 rfl rfl 4 (by decide) w1 (fun _ h9 => h9) rfl dX6_faultAs_26 ?_
      refine lv_icmp_ge (tgt := 61) hx hb dX6_faultAs_29 (by decide) (fun c_4 => ?_) (fun c_4 => ?_)
      · have hM := on_pos c_4 hM
        have hk := on_nxR hM hk
        subst hk
        exact K1 _ rfl _ _ hP hD hS ls (lv_sub hl [0, 1] rfl)
      · have hM := on_neg c_4 hM
        refine lv_iload_n hx hb dX6_faultAs_32 rfl (lv_at hl 2 rfl) ?_
        refine lv_iload_n hx hb dX6_faultAs_33 rfl (lv_at hl 1 rfl) ?_
        refine lv_icmp_ge (tgt := 53) hx hb dX6_faultAs_34 (by decide) (fun c_5 => ?_) (fun c_5 => ?_)
        · have hM := on_pos c_5 hM
          refine lv_iload_n hx hb dX6_faultAs_53 rfl (lv_at hl 2 rfl) ?_
          have hk := on_nxR hM hk
          subst hk
          have ho := K2 _ rfl
          subst ho
          rw [← hQ]
          exact on_iret hx hb hr hlk hP hD hS dX6_faultAs_54
        · have hM := on_neg c_5 hM
          refine lv_aload_n hx hb dX6_faultAs_37 rfl (lv_at hl 0 rfl) ?_
          refine va_get (D := D) (ci := 6) (v := .ref h_t_pad) (C := RX6) (T := TX6) (N := 13) hx hb hts w2 hown hK hP 0 rfl rfl 3 (by decide) w3 (fun _ h9 => h9) rfl dX6_faultAs_38 ?_
          refine lv_iload_n hx hb dX6_faultAs_41 rfl (lv_at hl 2 rfl) ?_
          obtain ⟨g_6, hM⟩ := on_gdE hM
          refine va_iald hx hb hK hP 2 0 rfl rfl (on_ixE g_6) dX6_faultAs_42 ?_
          refine lv_bipush (v := 48) hx hb dX6_faultAs_43 (by decide) ?_
          refine lv_bipush (v := 49) hx hb dX6_faultAs_45 (by decide) ?_
          obtain ⟨q_7, hq_7, hM⟩ := on_bind hM
          refine on_callS0 (rest := []) (As := [.int (t_pad (Int32.toNatClampNeg v3)), .int (48 : Int32), .int (49 : Int32)]) (st1 := [.int q_7]) ⟨hx, hb, hml, hown, hts⟩ (k_X6_in (t_pad (Int32.toNatClampNeg v3)) (48 : Int32) (49 : Int32) q_7 hq_7) (va_cwS 3 hts gX6_faultAs_X6_in rfl rfl rfl hdX6_in ⟨(Nat.le_of_ble_eq_true rfl), (Nat.le_of_ble_eq_true rfl)⟩) hK hN hP hD hS hA rfl hl.1 rfl (Nat.le_of_ble_eq_true rfl) rfl dX6_faultAs_47 ⟨Nat.zero_le _, Nat.zero_le _⟩ (fun H locs hP hS => ?_)
          refine lv_if_ne (tgt := 55) hx hb dX6_faultAs_50 (by decide) (fun c_8 => ?_) (fun c_8 => ?_)
          · have hM := on_neg c_8 hM
            obtain ⟨v3_9, ev3_9⟩ : ∃ z : Int32, z = v3 + 1 := ⟨_, rfl⟩
            have hM := on_letE ev3_9 hM
            refine lv_iinc (v := v3_9) (lv' := [(3, .int v3_9), (0, .ref h_t), (2, .int v2)]) hx hb dX6_faultAs_55 hl (k := 2) rfl (by rw [ev3_9]; rfl) (by decide) rfl (fun ls hl => ?_)
            refine lv_goto (tgt := 24) hx hb dX6_faultAs_58 (by decide) ?_
            have hk := on_nxL hM hk
            exact ih v3_9 _ hk K1 K2 _ _ hP hD hS ls (lv_sub hl [1, 2, 0] rfl)
          · have hM := on_pos c_8 hM
            refine lv_iload_n hx hb dX6_faultAs_53 rfl (lv_at hl 2 rfl) ?_
            have hk := on_nxR hM hk
            subst hk
            have ho := K2 _ rfl
            subst ho
            rw [← hQ]
            exact on_iret hx hb hr hlk hP hD hS dX6_faultAs_54
  refine lv_iload_n hx hb dX6_faultAs_0 rfl (lv_at hl 1 rfl) ?_
  refine lv_if_ne (tgt := 14) hx hb dX6_faultAs_1 (by decide) (fun c_1 => ?_) (fun c_1 => ?_)
  · have hM := on_neg c_1 hM
    refine lv_aload_n hx hb dX6_faultAs_14 rfl (lv_at hl 0 rfl) ?_
    obtain ⟨q_2, hq_2, hM⟩ := on_bind hM
    refine on_callV (rest := []) (As := []) (st1 := [.int q_2]) (C := RX6) (ci := 6) (q0 := 0) (wc := [(h_t, .inr (6, [.ref h_t_state, .ref h_t_images, .ref h_t_isKept, .ref h_t_pad, .int t_said, .int t_leastSize, .int t_leastSet, .int t_found, .ref h_t_row, .ref h_t_isUsed, .ref h_t_table, .int t_rank, .long t_determinant])), (h_t_state, .inl (cI, 4, .inl t_state))]) (wr := [(h_t_pad, .inl (cI, 35, .inl t_pad))]) (wc' := [(h_t, .inr (6, [.ref h_t_state, .ref h_t_images, .ref h_t_isKept, .ref h_t_pad, .int t_said, .int t_leastSize, .int t_leastSet, .int t_found, .ref h_t_row, .ref h_t_isUsed, .ref h_t_table, .int t_rank, .long t_determinant])), (h_t_state, .inl (cI, 4, .inl t_state))]) (wf := [(h_t, .inr (6, [.ref h_t_state, .ref h_t_images, .ref h_t_isKept, .ref h_t_pad, .int t_said, .int t_leastSize, .int t_leastSet, .int t_found, .ref h_t_row, .ref h_t_isUsed, .ref h_t_table, .int t_rank, .long t_determinant])), (h_t_state, .inl (cI, 4, .inl t_state)), (h_t_pad, .inl (cI, 35, .inl t_pad))]) (rt := (some (.int q_2))) ⟨hx, hb, hml, hown, hts⟩ (k_X6_many h_t h_t_state h_t_images h_t_isKept h_t_pad h_t_row h_t_isUsed h_t_table t_said t_leastSize t_leastSet t_found t_rank t_determinant t_state q_2 hq_2) (cwV 0 hts gX6_faultAs_X6_many rfl rfl rfl ⟨rfl, hdX6_many⟩ ⟨(Nat.le_of_ble_eq_true rfl), (Nat.le_of_ble_eq_true rfl)⟩) hK hN hP hD hS hA [0, 1] [2] [1, 2, 0] rfl rfl rfl rfl (by decide) rfl rfl rfl rfl rfl rfl hl.1 rfl (Nat.le_of_ble_eq_true rfl) rfl dX6_faultAs_15 ⟨Nat.zero_le _, Nat.zero_le _⟩ (fun H locs hP hD hS => ?_)
    obtain ⟨q_3, hq_3, hM⟩ := on_bind hM
    refine on_callS0 (rest := []) (As := [.int q_2]) (st1 := [.int q_3]) ⟨hx, hb, hml, hown, hts⟩ (k_X6_triples q_2 q_3 hq_3) (va_cwS 1 hts gX6_faultAs_X6_triples rfl rfl rfl hdX6_triples ⟨(Nat.le_of_ble_eq_true rfl), (Nat.le_of_ble_eq_true rfl)⟩) hK hN hP hD hS hA rfl hl.1 rfl (Nat.le_of_ble_eq_true rfl) rfl dX6_faultAs_18 ⟨Nat.zero_le _, Nat.zero_le _⟩ (fun H locs hP hS => ?_)
    refine lv_istore_n (lv' := [(2, .int q_3), (0, .ref h_t), (1, .int v1)]) hx hb dX6_faultAs_21 rfl hl (by decide) rfl (fun ls hl => ?_)
    refine lv_iconst (v := 0) hx hb dX6_faultAs_22 (by decide) ?_
    refine lv_istore_n (lv' := [(3, .int (0 : Int32)), (2, .int q_3), (0, .ref h_t), (1, .int v1)]) hx hb dX6_faultAs_23 rfl hl (by decide) rfl (fun ls hl => ?_)
    obtain ⟨q_10, hq_10, hM⟩ := on_bind hM
    refine lp_24 q_3 on_F (0 : Int32) q_10 hq_10 (fun u_11 hv H locs hP hD hS ls hl => ?_) (fun o ho => ?_) H locs hP hD hS ls (lv_sub hl [2, 1, 0] rfl)
    · subst hv
      have hM := on_elR hM
      refine lv_aload_n hx hb dX6_faultAs_61 rfl (lv_at hl 0 rfl) ?_
      refine va_get (D := D) (ci := 6) (v := .int t_said) (C := RX6) (T := TX6) (N := 13) hx hb hts w2 hown hK hP 0 rfl rfl 4 (by decide) w1 (fun _ h9 => h9) rfl dX6_faultAs_62 ?_
      refine lv_iload_n hx hb dX6_faultAs_65 rfl (lv_at hl 1 rfl) ?_
      refine lv_icmp_ge (tgt := 76) hx hb dX6_faultAs_66 (by decide) (fun c_12 => ?_) (fun c_12 => ?_)
      · have hM := on_pos c_12 hM
        refine lv_bipush (v := -6) hx hb dX6_faultAs_76 (by decide) ?_
        have hM := Option.some.inj hM
        subst hM
        rw [← hQ]
        exact on_iret hx hb hr hlk hP hD hS dX6_faultAs_78
      · have hM := on_neg c_12 hM
        refine lv_aload_n hx hb dX6_faultAs_69 rfl (lv_at hl 0 rfl) ?_
        refine va_get (D := D) (ci := 6) (v := .int t_said) (C := RX6) (T := TX6) (N := 13) hx hb hts w2 hown hK hP 0 rfl rfl 4 (by decide) w1 (fun _ h9 => h9) rfl dX6_faultAs_70 ?_
        refine lv_goto (tgt := 78) hx hb dX6_faultAs_73 (by decide) ?_
        have hM := Option.some.inj hM
        subst hM
        rw [← hQ]
        exact on_iret hx hb hr hlk hP hD hS dX6_faultAs_78
    · subst ho
      have hM := on_elL hM
      exact Option.some.inj hM
  · have hM := on_pos c_1 hM
    refine lv_aload_n hx hb dX6_faultAs_4 rfl (lv_at hl 0 rfl) ?_
    obtain ⟨q_13, hq_13, hM⟩ := on_bind hM
    refine on_callV (rest := []) (As := []) (st1 := [.int q_13]) (C := RX6) (ci := 6) (q0 := 0) (wc := [(h_t, .inr (6, [.ref h_t_state, .ref h_t_images, .ref h_t_isKept, .ref h_t_pad, .int t_said, .int t_leastSize, .int t_leastSet, .int t_found, .ref h_t_row, .ref h_t_isUsed, .ref h_t_table, .int t_rank, .long t_determinant])), (h_t_state, .inl (cI, 4, .inl t_state))]) (wr := [(h_t_pad, .inl (cI, 35, .inl t_pad))]) (wc' := [(h_t, .inr (6, [.ref h_t_state, .ref h_t_images, .ref h_t_isKept, .ref h_t_pad, .int t_said, .int t_leastSize, .int t_leastSet, .int t_found, .ref h_t_row, .ref h_t_isUsed, .ref h_t_table, .int t_rank, .long t_determinant])), (h_t_state, .inl (cI, 4, .inl t_state))]) (wf := [(h_t, .inr (6, [.ref h_t_state, .ref h_t_images, .ref h_t_isKept, .ref h_t_pad, .int t_said, .int t_leastSize, .int t_leastSet, .int t_found, .ref h_t_row, .ref h_t_isUsed, .ref h_t_table, .int t_rank, .long t_determinant])), (h_t_state, .inl (cI, 4, .inl t_state)), (h_t_pad, .inl (cI, 35, .inl t_pad))]) (rt := (some (.int q_13))) ⟨hx, hb, hml, hown, hts⟩ (k_X6_many h_t h_t_state h_t_images h_t_isKept h_t_pad h_t_row h_t_isUsed h_t_table t_said t_leastSize t_leastSet t_found t_rank t_determinant t_state q_13 hq_13) (cwV 0 hts gX6_faultAs_X6_many rfl rfl rfl ⟨rfl, hdX6_many⟩ ⟨(Nat.le_of_ble_eq_true rfl), (Nat.le_of_ble_eq_true rfl)⟩) hK hN hP hD hS hA [0, 1] [2] [1, 2, 0] rfl rfl rfl rfl (by decide) rfl rfl rfl rfl rfl rfl hl.1 rfl (Nat.le_of_ble_eq_true rfl) rfl dX6_faultAs_5 ⟨Nat.zero_le _, Nat.zero_le _⟩ (fun H locs hP hD hS => ?_)
    obtain ⟨q_14, hq_14, hM⟩ := on_bind hM
    refine on_callS0 (rest := []) (As := [.int q_13]) (st1 := [.int q_14]) ⟨hx, hb, hml, hown, hts⟩ (k_X6_pairs q_13 q_14 hq_14) (va_cwS 1 hts gX6_faultAs_X6_pairs rfl rfl rfl hdX6_pairs ⟨(Nat.le_of_ble_eq_true rfl), (Nat.le_of_ble_eq_true rfl)⟩) hK hN hP hD hS hA rfl hl.1 rfl (Nat.le_of_ble_eq_true rfl) rfl dX6_faultAs_8 ⟨Nat.zero_le _, Nat.zero_le _⟩ (fun H locs hP hS => ?_)
    refine lv_goto (tgt := 21) hx hb dX6_faultAs_11 (by decide) ?_
    refine lv_istore_n (lv' := [(2, .int q_14), (0, .ref h_t), (1, .int v1)]) hx hb dX6_faultAs_21 rfl hl (by decide) rfl (fun ls hl => ?_)
    refine lv_iconst (v := 0) hx hb dX6_faultAs_22 (by decide) ?_
    refine lv_istore_n (lv' := [(3, .int (0 : Int32)), (2, .int q_14), (0, .ref h_t), (1, .int v1)]) hx hb dX6_faultAs_23 rfl hl (by decide) rfl (fun ls hl => ?_)
    obtain ⟨q_15, hq_15, hM⟩ := on_bind hM
    refine lp_24 q_14 on_F (0 : Int32) q_15 hq_15 (fun u_16 hv H locs hP hD hS ls hl => ?_) (fun o ho => ?_) H locs hP hD hS ls (lv_sub hl [2, 1, 0] rfl)
    · subst hv
      have hM := on_elR hM
      refine lv_aload_n hx hb dX6_faultAs_61 rfl (lv_at hl 0 rfl) ?_
      refine va_get (D := D) (ci := 6) (v := .int t_said) (C := RX6) (T := TX6) (N := 13) hx hb hts w2 hown hK hP 0 rfl rfl 4 (by decide) w1 (fun _ h9 => h9) rfl dX6_faultAs_62 ?_
      refine lv_iload_n hx hb dX6_faultAs_65 rfl (lv_at hl 1 rfl) ?_
      refine lv_icmp_ge (tgt := 76) hx hb dX6_faultAs_66 (by decide) (fun c_17 => ?_) (fun c_17 => ?_)
      · have hM := on_pos c_17 hM
        refine lv_bipush (v := -6) hx hb dX6_faultAs_76 (by decide) ?_
        have hM := Option.some.inj hM
        subst hM
        rw [← hQ]
        exact on_iret hx hb hr hlk hP hD hS dX6_faultAs_78
      · have hM := on_neg c_17 hM
        refine lv_aload_n hx hb dX6_faultAs_69 rfl (lv_at hl 0 rfl) ?_
        refine va_get (D := D) (ci := 6) (v := .int t_said) (C := RX6) (T := TX6) (N := 13) hx hb hts w2 hown hK hP 0 rfl rfl 4 (by decide) w1 (fun _ h9 => h9) rfl dX6_faultAs_70 ?_
        refine lv_goto (tgt := 78) hx hb dX6_faultAs_73 (by decide) ?_
        have hM := Option.some.inj hM
        subst hM
        rw [← hQ]
        exact on_iret hx hb hr hlk hP hD hS dX6_faultAs_78
    · subst ho
      have hM := on_elL hM
      exact Option.some.inj hM
abbrev rm_X6_fault : Room := { frames := 2, cells := 0, slots := 0, locals := 45 }
set_option maxHeartbeats 4000000 in
set_option maxRecDepth 100000 in
theorem k_X6_fault {l : Launch} {D : va_G} {cI cJ cZ cS cA : ClassId} (h_t : Nat) (h_t_state : Nat) (h_t_images : Nat) (h_t_isKept : Nat) (h_t_pad : Nat) (h_t_row : Nat) (h_t_isUsed : Nat) (h_t_table : Nat) (t_said : Int32) (t_leastSize : Int32) (t_leastSet : Int32) (t_found : Int32) (t_rank : Int32) (t_determinant : Int64) (t_state : Nat → Int32) (t_pad : Nat → Int32) (v1 : Int32) (out : Int32) (hM : M_X6_fault v1 t_said t_state t_pad = some out) : on_Con l yX6_fault wsX6_fault rm_X6_fault [.ref h_t, .int v1] D (on_T cI cJ cZ cS cA) [(h_t, .inr (6, [.ref h_t_state, .ref h_t_images, .ref h_t_isKept, .ref h_t_pad, .int t_said, .int t_leastSize, .int t_leastSet, .int t_found, .ref h_t_row, .ref h_t_isUsed, .ref h_t_table, .int t_rank, .long t_determinant])), (h_t_state, .inl (cI, 4, .inl t_state)), (h_t_pad, .inl (cI, 35, .inl t_pad))] (some (.int out)) [(h_t, .inr (6, [.ref h_t_state, .ref h_t_images, .ref h_t_isKept, .ref h_t_pad, .int t_said, .int t_leastSize, .int t_leastSet, .int t_found, .ref h_t_row, .ref h_t_isUsed, .ref h_t_table, .int t_rank, .long t_determinant])), (h_t_state, .inl (cI, 4, .inl t_state)), (h_t_pad, .inl (cI, 35, .inl t_pad))] := by
  unfold M_X6_fault at hM
  refine on_enter (cc := cX6_fault) (nL := 2) (rt := (some .int)) (own := RX6) (by decide +kernel) rfl rfl (Nat.le_of_ble_eq_true rfl) ?_
  intro p e s m below meth c A ls hx hb hml hr hlk hts hown hA hK hN H locs hP hD hS hl
  have hl : lv_has ls 2 [(0, .ref h_t), (1, .int v1)] := hl
  generalize hQ : MQ below (on_Q D (some (.int out)) [(h_t, .inr (6, [.ref h_t_state, .ref h_t_images, .ref h_t_isKept, .ref h_t_pad, .int t_said, .int t_leastSize, .int t_leastSet, .int t_found, .ref h_t_row, .ref h_t_isUsed, .ref h_t_table, .int t_rank, .long t_determinant])), (h_t_state, .inl (cI, 4, .inl t_state)), (h_t_pad, .inl (cI, 35, .inl t_pad))] A) _ s 0 0 A = Q
  generalize hAr : List.toArray ([.ref h_t, .int v1] : List Value) = args at hts hQ ⊢
  refine lv_iload_n hx hb dX6_fault_0 rfl (lv_at hl 1 rfl) ?_
  refine lv_iconst (v := 0) hx hb dX6_fault_1 (by decide) ?_
  refine lv_iconst (v := 1) hx hb dX6_fault_2 (by decide) ?_
  obtain ⟨q_1, hq_1, hM⟩ := on_bind hM
  refine on_callS0 (rest := []) (As := [.int v1, .int (0 : Int32), .int (1 : Int32)]) (st1 := [.int q_1]) ⟨hx, hb, hml, hown, hts⟩ (k_X6_in v1 (0 : Int32) (1 : Int32) q_1 hq_1) (va_cwS 3 hts gX6_fault_X6_in rfl rfl rfl hdX6_in ⟨(Nat.le_of_ble_eq_true rfl), (Nat.le_of_ble_eq_true rfl)⟩) hK hN hP hD hS hA rfl hl.1 rfl (Nat.le_of_ble_eq_true rfl) rfl dX6_fault_3 ⟨Nat.zero_le _, Nat.zero_le _⟩ (fun H locs hP hS => ?_)
  refine lv_if_eq (tgt := 17) hx hb dX6_fault_6 (by decide) (fun c_2 => ?_) (fun c_2 => ?_)
  · have hM := on_pos c_2 hM
    refine lv_bipush (v := -2) hx hb dX6_fault_17 (by decide) ?_
    have hM := Option.some.inj hM
    subst hM
    rw [← hQ]
    exact on_iret hx hb hr hlk hP hD hS dX6_fault_19
  · have hM := on_neg c_2 hM
    refine lv_aload_n hx hb dX6_fault_9 rfl (lv_at hl 0 rfl) ?_
    refine lv_iload_n hx hb dX6_fault_10 rfl (lv_at hl 1 rfl) ?_
    obtain ⟨q_3, hq_3, hM⟩ := on_bind hM
    refine on_callV (rest := []) (As := [.int v1]) (st1 := [.int q_3]) (C := RX6) (ci := 6) (q0 := 0) (wc := [(h_t, .inr (6, [.ref h_t_state, .ref h_t_images, .ref h_t_isKept, .ref h_t_pad, .int t_said, .int t_leastSize, .int t_leastSet, .int t_found, .ref h_t_row, .ref h_t_isUsed, .ref h_t_table, .int t_rank, .long t_determinant])), (h_t_state, .inl (cI, 4, .inl t_state)), (h_t_pad, .inl (cI, 35, .inl t_pad))]) (wr := []) (wc' := [(h_t, .inr (6, [.ref h_t_state, .ref h_t_images, .ref h_t_isKept, .ref h_t_pad, .int t_said, .int t_leastSize, .int t_leastSet, .int t_found, .ref h_t_row, .ref h_t_isUsed, .ref h_t_table, .int t_rank, .long t_determinant])), (h_t_state, .inl (cI, 4, .inl t_state)), (h_t_pad, .inl (cI, 35, .inl t_pad))]) (wf := [(h_t, .inr (6, [.ref h_t_state, .ref h_t_images, .ref h_t_isKept, .ref h_t_pad, .int t_said, .int t_leastSize, .int t_leastSet, .int t_found, .ref h_t_row, .ref h_t_isUsed, .ref h_t_table, .int t_rank, .long t_determinant])), (h_t_state, .inl (cI, 4, .inl t_state)), (h_t_pad, .inl (cI, 35, .inl t_pad))]) (rt := (some (.int q_3))) ⟨hx, hb, hml, hown, hts⟩ (k_X6_faultAs h_t h_t_state h_t_images h_t_isKept h_t_pad h_t_row h_t_isUsed h_t_table t_said t_leastSize t_leastSet t_found t_rank t_determinant t_state t_pad v1 q_3 hq_3) (cwV 1 hts gX6_fault_X6_faultAs rfl rfl rfl ⟨rfl, hdX6_faultAs⟩ ⟨(Nat.le_of_ble_eq_true rfl), (Nat.le_of_ble_eq_true rfl)⟩) hK hN hP hD hS hA [0, 1, 2] [] [0, 1, 2] rfl rfl rfl rfl (by decide) rfl rfl rfl rfl rfl rfl hl.1 rfl (Nat.le_of_ble_eq_true rfl) rfl dX6_fault_11 ⟨Nat.zero_le _, Nat.zero_le _⟩ (fun H locs hP hD hS => ?_)
    refine lv_goto (tgt := 19) hx hb dX6_fault_14 (by decide) ?_
    have hM := Option.some.inj hM
    subst hM
    rw [← hQ]
    exact on_iret hx hb hr hlk hP hD hS dX6_fault_19
abbrev rm_X6_placeOf : Room := { frames := 1, cells := 0, slots := 0, locals := 20 }
set_option maxHeartbeats 4000000 in
set_option maxRecDepth 100000 in
theorem k_X6_placeOf {l : Launch} {D : va_G} {cI cJ cZ cS cA : ClassId} (h_t : Nat) (h_t_state : Nat) (h_t_images : Nat) (h_t_isKept : Nat) (h_t_pad : Nat) (h_t_row : Nat) (h_t_isUsed : Nat) (h_t_table : Nat) (t_said : Int32) (t_leastSize : Int32) (t_leastSet : Int32) (t_found : Int32) (t_rank : Int32) (t_determinant : Int64) (t_state : Nat → Int32) (v1 : Int32) (v2 : Int32) (v3 : Int32) (out : Int32) (hM : M_X6_placeOf v1 v2 v3 t_state = some out) : on_Con l yX6_placeOf wsX6_placeOf rm_X6_placeOf [.ref h_t, .int v1, .int v2, .int v3] D (on_T cI cJ cZ cS cA) [(h_t, .inr (6, [.ref h_t_state, .ref h_t_images, .ref h_t_isKept, .ref h_t_pad, .int t_said, .int t_leastSize, .int t_leastSet, .int t_found, .ref h_t_row, .ref h_t_isUsed, .ref h_t_table, .int t_rank, .long t_determinant])), (h_t_state, .inl (cI, 4, .inl t_state))] (some (.int out)) [(h_t, .inr (6, [.ref h_t_state, .ref h_t_images, .ref h_t_isKept, .ref h_t_pad, .int t_said, .int t_leastSize, .int t_leastSet, .int t_found, .ref h_t_row, .ref h_t_isUsed, .ref h_t_table, .int t_rank, .long t_determinant])), (h_t_state, .inl (cI, 4, .inl t_state))] := by
  unfold M_X6_placeOf at hM
  refine on_enter (cc := cX6_placeOf) (nL := 8) (rt := (some .int)) (own := RX6) (by decide +kernel) rfl rfl (Nat.le_of_ble_eq_true rfl) ?_
  intro p e s m below meth c A ls hx hb hml hr hlk hts hown hA hK hN H locs hP hD hS hl
  have hl : lv_has ls 8 [(0, .ref h_t), (1, .int v1), (2, .int v2), (3, .int v3)] := hl
  generalize hQ : MQ below (on_Q D (some (.int out)) [(h_t, .inr (6, [.ref h_t_state, .ref h_t_images, .ref h_t_isKept, .ref h_t_pad, .int t_said, .int t_leastSize, .int t_leastSet, .int t_found, .ref h_t_row, .ref h_t_isUsed, .ref h_t_table, .int t_rank, .long t_determinant])), (h_t_state, .inl (cI, 4, .inl t_state))] A) _ s 0 0 A = Q
  generalize hAr : List.toArray ([.ref h_t, .int v1, .int v2, .int v3] : List Value) = args at hts hQ ⊢
  have lp_36 : ∀ (v1 : Int32) (v2 : Int32) (v3 : Int32) (v5 : Int32) (v6 : Int32), ∀ (n : Nat) (v4 : Int32) (v7 : Int32) (x : Int32 ⊕ Int32), on_loop (fun (s : Int32 × Int32) => B_X6_placeOf_36 v1 v2 v3 v5 v6 t_state s.1 s.2) n (v4, v7) = some x → (∀ u, x = Sum.inr u → ∀ (H : Heap) (locs : List Loc), va_P D vwCl [(h_t, .inr (6, [.ref h_t_state, .ref h_t_images, .ref h_t_isKept, .ref h_t_pad, .int t_said, .int t_leastSize, .int t_leastSet, .int t_found, .ref h_t_row, .ref h_t_isUsed, .ref h_t_table, .int t_rank, .long t_determinant])), (h_t_state, .inl (cI, 4, .inl t_state))] H → va_D A [(h_t, .inr (6, [.ref h_t_state, .ref h_t_images, .ref h_t_isKept, .ref h_t_pad, .int t_said, .int t_leastSize, .int t_leastSet, .int t_found, .ref h_t_row, .ref h_t_isUsed, .ref h_t_table, .int t_rank, .long t_determinant])), (h_t_state, .inl (cI, 4, .inl t_state))] → va_S A s.heap H locs → ∀ ls : Array Slot, lv_has ls 8 [(0, .ref h_t), (1, .int v1), (2, .int v2), (3, .int v3), (4, .int u), (5, .int v5), (6, .int v6)] → W p l e rm_X6_placeOf s m args below meth c H locs 0 0 Q (F0 m 75 ls [])) → (∀ o, x = Sum.inl o → o = out) → ∀ (H : Heap) (locs : List Loc), va_P D vwCl [(h_t, .inr (6, [.ref h_t_state, .ref h_t_images, .ref h_t_isKept, .ref h_t_pad, .int t_said, .int t_leastSize, .int t_leastSet, .int t_found, .ref h_t_row, .ref h_t_isUsed, .ref h_t_table, .int t_rank, .long t_determinant])), (h_t_state, .inl (cI, 4, .inl t_state))] H → va_D A [(h_t, .inr (6, [.ref h_t_state, .ref h_t_images, .ref h_t_isKept, .ref h_t_pad, .int t_said, .int t_leastSize, .int t_leastSet, .int t_found, .ref h_t_row, .ref h_t_isUsed, .ref h_t_table, .int t_rank, .long t_determinant])), (h_t_state, .inl (cI, 4, .inl t_state))] → va_S A s.heap H locs → ∀ ls : Array Slot, lv_has ls 8 [(0, .ref h_t), (1, .int v1), (2, .int v2), (3, .int v3), (4, .int v4), (5, .int v5), (6, .int v6), (7, .int v7)] → W p l e rm_X6_placeOf s m args below meth c H locs 0 0 Q (F0 m 36 ls []) := by
    intro v1 v2 v3 v5 v6
    intro n
    induction n with
    | zero =>
      intro v4 v7 x hL
      exact (on_loop0 hL).elim
    | succ n ih =>
      intro v4 v7 x hL K1 K2 H locs hP hD hS ls hl
      obtain ⟨y, hM, hk⟩ := on_loopE hL
      have hM : B_X6_placeOf_36 v1 v2 v3 v5 v6 t_state v4 v7 = some y := hM
      unfold B_X6_placeOf_36 at hM
      refine lv_iload hx hb dX6_placeOf_36 (lv_at hl 7 rfl) ?_
      refine lv_aload_n hx hb dX6_placeOf_38 rfl (lv_at hl 0 rfl) ?_
      obtain ⟨q_7, hq_7, hM⟩ := on_bind hM
      refine on_callV (rest := [.int v7]) (As := []) (st1 := [.int q_7, .int v7]) (C := RX6) (ci := 6) (q0 := 0) (wc := [(h_t, .inr (6, [.ref h_t_state, .ref h_t_images, .ref h_t_isKept, .ref h_t_pad, .int t_said, .int t_leastSize, .int t_leastSet, .int t_found, .ref h_t_row, .ref h_t_isUsed, .ref h_t_table, .int t_rank, .long t_determinant])), (h_t_state, .inl (cI, 4, .inl t_state))]) (wr := []) (wc' := [(h_t, .inr (6, [.ref h_t_state, .ref h_t_images, .ref h_t_isKept, .ref h_t_pad, .int t_said, .int t_leastSize, .int t_leastSet, .int t_found, .ref h_t_row, .ref h_t_isUsed, .ref h_t_table, .int t_rank, .long t_determinant])), (h_t_state, .inl (cI, 4, .inl t_state))]) (wf := [(h_t, .inr (6, [.ref h_t_state, .ref h_t_images, .ref h_t_isKept, .ref h_t_pad, .int t_said, .int t_leastSize, .int t_leastSet, .int t_found, .ref h_t_row, .ref h_t_isUsed, .ref h_t_table, .int t_rank, .long t_determinant])), (h_t_state, .inl (cI, 4, .inl t_state))]) (rt := (some (.int q_7))) ⟨hx, hb, hml, hown, hts⟩ (k_X6_many h_t h_t_state h_t_images h_t_isKept h_t_pad h_t_row h_t_isUsed h_t_table t_said t_leastSize t_leastSet t_found t_rank t_determinant t_state q_7 hq_7) (cwV 0 hts gX6_placeOf_X6_many rfl rfl rfl ⟨rfl, hdX6_many⟩ ⟨(Nat.le_of_ble_eq_true rfl), (Nat.le_of_ble_eq_true rfl)⟩) hK hN hP hD hS hA [0, 1] [] [0, 1] rfl rfl rfl rfl (by decide) rfl rfl rfl rfl rfl rfl hl.1 rfl (Nat.le_of_ble_eq_true rfl) rfl dX6_placeOf_39 ⟨Nat.zero_le _, Nat.zero_le _⟩ (fun H locs hP hD hS => ?_)
      refine lv_icmp_ge (tgt := 75) hx hb dX6_placeOf_42 (by decide) (fun c_8 => ?_) (fun c_8 => ?_)
      · have hM := on_pos c_8 hM
        have hk := on_nxR hM hk
        subst hk
        exact K1 _ rfl _ _ hP hD hS ls (lv_sub hl [0, 1, 2, 3, 4, 5, 6] rfl)
      · have hM := on_neg c_8 hM
        refine lv_iload hx hb dX6_placeOf_45 (lv_at hl 5 rfl) ?_
        refine lv_iload_n hx hb dX6_placeOf_47 rfl (lv_at hl 1 rfl) ?_
        refine lv_icmp_ne (tgt := 66) hx hb dX6_placeOf_48 (by decide) (fun c_9 => ?_) (fun c_9 => ?_)
        · have hM := on_neg c_9 hM
          obtain ⟨v4_10, ev4_10⟩ : ∃ z : Int32, z = v4 + 1 := ⟨_, rfl⟩
          have hM := on_letE ev4_10 hM
          refine lv_iinc (v := v4_10) (lv' := [(4, .int v4_10), (0, .ref h_t), (1, .int v1), (2, .int v2), (3, .int v3), (5, .int v5), (6, .int v6), (7, .int v7)]) hx hb dX6_placeOf_66 hl (k := 4) rfl (by rw [ev4_10]; rfl) (by decide) rfl (fun ls hl => ?_)
          obtain ⟨v7_11, ev7_11⟩ : ∃ z : Int32, z = v7 + 1 := ⟨_, rfl⟩
          have hM := on_letE ev7_11 hM
          refine lv_iinc (v := v7_11) (lv' := [(7, .int v7_11), (4, .int v4_10), (0, .ref h_t), (1, .int v1), (2, .int v2), (3, .int v3), (5, .int v5), (6, .int v6)]) hx hb dX6_placeOf_69 hl (k := 7) rfl (by rw [ev7_11]; rfl) (by decide) rfl (fun ls hl => ?_)
          refine lv_goto (tgt := 36) hx hb dX6_placeOf_72 (by decide) ?_
          have hk := on_nxL hM hk
          exact ih v4_10 v7_11 _ hk K1 K2 _ _ hP hD hS ls (lv_sub hl [2, 3, 4, 5, 1, 6, 7, 0] rfl)
        · have hM := on_pos c_9 hM
          refine lv_iload hx hb dX6_placeOf_51 (lv_at hl 6 rfl) ?_
          refine lv_iload_n hx hb dX6_placeOf_53 rfl (lv_at hl 2 rfl) ?_
          refine lv_icmp_ne (tgt := 66) hx hb dX6_placeOf_54 (by decide) (fun c_12 => ?_) (fun c_12 => ?_)
          · have hM := on_neg c_12 hM
            obtain ⟨v4_13, ev4_13⟩ : ∃ z : Int32, z = v4 + 1 := ⟨_, rfl⟩
            have hM := on_letE ev4_13 hM
            refine lv_iinc (v := v4_13) (lv' := [(4, .int v4_13), (0, .ref h_t), (1, .int v1), (2, .int v2), (3, .int v3), (5, .int v5), (6, .int v6), (7, .int v7)]) hx hb dX6_placeOf_66 hl (k := 4) rfl (by rw [ev4_13]; rfl) (by decide) rfl (fun ls hl => ?_)
            obtain ⟨v7_14, ev7_14⟩ : ∃ z : Int32, z = v7 + 1 := ⟨_, rfl⟩
            have hM := on_letE ev7_14 hM
            refine lv_iinc (v := v7_14) (lv' := [(7, .int v7_14), (4, .int v4_13), (0, .ref h_t), (1, .int v1), (2, .int v2), (3, .int v3), (5, .int v5), (6, .int v6)]) hx hb dX6_placeOf_69 hl (k := 7) rfl (by rw [ev7_14]; rfl) (by decide) rfl (fun ls hl => ?_)
            refine lv_goto (tgt := 36) hx hb dX6_placeOf_72 (by decide) ?_
            have hk := on_nxL hM hk
            exact ih v4_13 v7_14 _ hk K1 K2 _ _ hP hD hS ls (lv_sub hl [2, 3, 4, 5, 1, 6, 7, 0] rfl)
          · have hM := on_pos c_12 hM
            refine lv_iload hx hb dX6_placeOf_57 (lv_at hl 7 rfl) ?_
            refine lv_iload_n hx hb dX6_placeOf_59 rfl (lv_at hl 3 rfl) ?_
            refine lv_icmp_ne (tgt := 66) hx hb dX6_placeOf_60 (by decide) (fun c_15 => ?_) (fun c_15 => ?_)
            · have hM := on_neg c_15 hM
              obtain ⟨v4_16, ev4_16⟩ : ∃ z : Int32, z = v4 + 1 := ⟨_, rfl⟩
              have hM := on_letE ev4_16 hM
              refine lv_iinc (v := v4_16) (lv' := [(4, .int v4_16), (0, .ref h_t), (1, .int v1), (2, .int v2), (3, .int v3), (5, .int v5), (6, .int v6), (7, .int v7)]) hx hb dX6_placeOf_66 hl (k := 4) rfl (by rw [ev4_16]; rfl) (by decide) rfl (fun ls hl => ?_)
              obtain ⟨v7_17, ev7_17⟩ : ∃ z : Int32, z = v7 + 1 := ⟨_, rfl⟩
              have hM := on_letE ev7_17 hM
              refine lv_iinc (v := v7_17) (lv' := [(7, .int v7_17), (4, .int v4_16), (0, .ref h_t), (1, .int v1), (2, .int v2), (3, .int v3), (5, .int v5), (6, .int v6)]) hx hb dX6_placeOf_69 hl (k := 7) rfl (by rw [ev7_17]; rfl) (by decide) rfl (fun ls hl => ?_)
              refine lv_goto (tgt := 36) hx hb dX6_placeOf_72 (by decide) ?_
              have hk := on_nxL hM hk
              exact ih v4_16 v7_17 _ hk K1 K2 _ _ hP hD hS ls (lv_sub hl [2, 3, 4, 5, 1, 6, 7, 0] rfl)
            · have hM := on_pos c_15 hM
              refine lv_iload hx hb dX6_placeOf_63 (lv_at hl 4 rfl) ?_
              have hk := on_nxR hM hk
              subst hk
              have ho := K2 _ rfl
              subst ho
              rw [← hQ]
              exact on_iret hx hb hr hlk hP hD hS dX6_placeOf_65
  have lp_21 : ∀ (v1 : Int32) (v2 : Int32) (v3 : Int32) (v5 : Int32), ∀ (n : Nat) (v4 : Int32) (v6 : Int32) (x : Int32 ⊕ Int32), on_loop (fun (s : Int32 × Int32) => B_X6_placeOf_21 v1 v2 v3 v5 t_state s.1 s.2) n (v4, v6) = some x → (∀ u, x = Sum.inr u → ∀ (H : Heap) (locs : List Loc), va_P D vwCl [(h_t, .inr (6, [.ref h_t_state, .ref h_t_images, .ref h_t_isKept, .ref h_t_pad, .int t_said, .int t_leastSize, .int t_leastSet, .int t_found, .ref h_t_row, .ref h_t_isUsed, .ref h_t_table, .int t_rank, .long t_determinant])), (h_t_state, .inl (cI, 4, .inl t_state))] H → va_D A [(h_t, .inr (6, [.ref h_t_state, .ref h_t_images, .ref h_t_isKept, .ref h_t_pad, .int t_said, .int t_leastSize, .int t_leastSet, .int t_found, .ref h_t_row, .ref h_t_isUsed, .ref h_t_table, .int t_rank, .long t_determinant])), (h_t_state, .inl (cI, 4, .inl t_state))] → va_S A s.heap H locs → ∀ ls : Array Slot, lv_has ls 8 [(0, .ref h_t), (1, .int v1), (2, .int v2), (3, .int v3), (4, .int u), (5, .int v5)] → W p l e rm_X6_placeOf s m args below meth c H locs 0 0 Q (F0 m 81 ls [])) → (∀ o, x = Sum.inl o → o = out) → ∀ (H : Heap) (locs : List Loc), va_P D vwCl [(h_t, .inr (6, [.ref h_t_state, .ref h_t_images, .ref h_t_isKept, .ref h_t_pad, .int t_said, .int t_leastSize, .int t_leastSet, .int t_found, .ref h_t_row, .ref h_t_isUsed, .ref h_t_table, .int t_rank, .long t_determinant])), (h_t_state, .inl (cI, 4, .inl t_state))] H → va_D A [(h_t, .inr (6, [.ref h_t_state, .ref h_t_images, .ref h_t_isKept, .ref h_t_pad, .int t_said, .int t_leastSize, .int t_leastSet, .int t_found, .ref h_t_row, .ref h_t_isUsed, .ref h_t_table, .int t_rank, .long t_determinant])), (h_t_state, .inl (cI, 4, .inl t_state))] → va_S A s.heap H locs → ∀ ls : Array Slot, lv_has ls 8 [(0, .ref h_t), (1, .int v1), (2, .int v2), (3, .int v3), (4, .int v4), (5, .int v5), (6, .int v6)] → W p l e rm_X6_placeOf s m args below meth c H locs 0 0 Q (F0 m 21 ls []) := by
    intro v1 v2 v3 v5
    intro n
    induction n with
    | zero =>
      intro v4 v6 x hL
      exact (on_loop0 hL).elim
    | succ n ih =>
      intro v4 v6 x hL K1 K2 H locs hP hD hS ls hl
      obtain ⟨y, hM, hk⟩ := on_loopE hL
      have hM : B_X6_placeOf_21 v1 v2 v3 v5 t_state v4 v6 = some y := hM
      unfold B_X6_placeOf_21 at hM
      refine lv_iload hx hb dX6_placeOf_21 (lv_at hl 6 rfl) ?_
      refine lv_aload_n hx hb dX6_placeOf_23 rfl (lv_at hl 0 rfl) ?_
      obtain ⟨q_4, hq_4, hM⟩ := on_bind hM
      refine on_callV (rest := [.int v6]) (As := []) (st1 := [.int q_4, .int v6]) (C := RX6) (ci := 6) (q0 := 0) (wc := [(h_t, .inr (6, [.ref h_t_state, .ref h_t_images, .ref h_t_isKept, .ref h_t_pad, .int t_said, .int t_leastSize, .int t_leastSet, .int t_found, .ref h_t_row, .ref h_t_isUsed, .ref h_t_table, .int t_rank, .long t_determinant])), (h_t_state, .inl (cI, 4, .inl t_state))]) (wr := []) (wc' := [(h_t, .inr (6, [.ref h_t_state, .ref h_t_images, .ref h_t_isKept, .ref h_t_pad, .int t_said, .int t_leastSize, .int t_leastSet, .int t_found, .ref h_t_row, .ref h_t_isUsed, .ref h_t_table, .int t_rank, .long t_determinant])), (h_t_state, .inl (cI, 4, .inl t_state))]) (wf := [(h_t, .inr (6, [.ref h_t_state, .ref h_t_images, .ref h_t_isKept, .ref h_t_pad, .int t_said, .int t_leastSize, .int t_leastSet, .int t_found, .ref h_t_row, .ref h_t_isUsed, .ref h_t_table, .int t_rank, .long t_determinant])), (h_t_state, .inl (cI, 4, .inl t_state))]) (rt := (some (.int q_4))) ⟨hx, hb, hml, hown, hts⟩ (k_X6_many h_t h_t_state h_t_images h_t_isKept h_t_pad h_t_row h_t_isUsed h_t_table t_said t_leastSize t_leastSet t_found t_rank t_determinant t_state q_4 hq_4) (cwV 0 hts gX6_placeOf_X6_many rfl rfl rfl ⟨rfl, hdX6_many⟩ ⟨(Nat.le_of_ble_eq_true rfl), (Nat.le_of_ble_eq_true rfl)⟩) hK hN hP hD hS hA [0, 1] [] [0, 1] rfl rfl rfl rfl (by decide) rfl rfl rfl rfl rfl rfl hl.1 rfl (Nat.le_of_ble_eq_true rfl) rfl dX6_placeOf_24 ⟨Nat.zero_le _, Nat.zero_le _⟩ (fun H locs hP hD hS => ?_)
      refine lv_icmp_ge (tgt := 81) hx hb dX6_placeOf_27 (by decide) (fun c_5 => ?_) (fun c_5 => ?_)
      · have hM := on_pos c_5 hM
        have hk := on_nxR hM hk
        subst hk
        exact K1 _ rfl _ _ hP hD hS ls (lv_sub hl [0, 1, 2, 3, 4, 5] rfl)
      · have hM := on_neg c_5 hM
        refine lv_iload hx hb dX6_placeOf_30 (lv_at hl 6 rfl) ?_
        refine lv_iconst (v := 1) hx hb dX6_placeOf_32 (by decide) ?_
        refine lv_iadd hx hb dX6_placeOf_33 ?_
        refine lv_topi (fun v7_6 ev7_6 => ?_)
        have hM := on_letE ev7_6 hM
        refine lv_istore (lv' := [(7, .int v7_6), (0, .ref h_t), (1, .int v1), (2, .int v2), (3, .int v3), (4, .int v4), (5, .int v5), (6, .int v6)]) hx hb dX6_placeOf_34 hl (by decide) rfl (fun ls hl => ?_)
        obtain ⟨q_18, hq_18, hM⟩ := on_bind hM
        refine lp_36 v1 v2 v3 v5 v6 on_F v4 v7_6 q_18 hq_18 (fun u_19 hv H locs hP hD hS ls hl => ?_) (fun o ho => ?_) H locs hP hD hS ls (lv_sub hl [1, 2, 3, 4, 5, 6, 7, 0] rfl)
        · subst hv
          have hM := on_elR hM
          obtain ⟨v6_20, ev6_20⟩ : ∃ z : Int32, z = v6 + 1 := ⟨_, rfl⟩
          have hM := on_letE ev6_20 hM
          refine lv_iinc (v := v6_20) (lv' := [(6, .int v6_20), (0, .ref h_t), (1, .int v1), (2, .int v2), (3, .int v3), (4, .int u_19), (5, .int v5)]) hx hb dX6_placeOf_75 hl (k := 6) rfl (by rw [ev6_20]; rfl) (by decide) rfl (fun ls hl => ?_)
          refine lv_goto (tgt := 21) hx hb dX6_placeOf_78 (by decide) ?_
          have hk := on_nxL hM hk
          exact ih u_19 v6_20 _ hk K1 K2 _ _ hP hD hS ls (lv_sub hl [1, 2, 3, 4, 5, 6, 0] rfl)
        · subst ho
          have hM := on_elL hM
          have hk := on_nxR hM hk
          subst hk
          exact K2 _ rfl
  have lp_6 : ∀ (v1 : Int32) (v2 : Int32) (v3 : Int32), ∀ (n : Nat) (v4 : Int32) (v5 : Int32) (x : Int32 ⊕ Unit), on_loop (fun (s : Int32 × Int32) => B_X6_placeOf_6 v1 v2 v3 t_state s.1 s.2) n (v4, v5) = some x → (∀ u, x = Sum.inr u → ∀ (H : Heap) (locs : List Loc), va_P D vwCl [(h_t, .inr (6, [.ref h_t_state, .ref h_t_images, .ref h_t_isKept, .ref h_t_pad, .int t_said, .int t_leastSize, .int t_leastSet, .int t_found, .ref h_t_row, .ref h_t_isUsed, .ref h_t_table, .int t_rank, .long t_determinant])), (h_t_state, .inl (cI, 4, .inl t_state))] H → va_D A [(h_t, .inr (6, [.ref h_t_state, .ref h_t_images, .ref h_t_isKept, .ref h_t_pad, .int t_said, .int t_leastSize, .int t_leastSet, .int t_found, .ref h_t_row, .ref h_t_isUsed, .ref h_t_table, .int t_rank, .long t_determinant])), (h_t_state, .inl (cI, 4, .inl t_state))] → va_S A s.heap H locs → ∀ ls : Array Slot, lv_has ls 8 [] → W p l e rm_X6_placeOf s m args below meth c H locs 0 0 Q (F0 m 87 ls [])) → (∀ o, x = Sum.inl o → o = out) → ∀ (H : Heap) (locs : List Loc), va_P D vwCl [(h_t, .inr (6, [.ref h_t_state, .ref h_t_images, .ref h_t_isKept, .ref h_t_pad, .int t_said, .int t_leastSize, .int t_leastSet, .int t_found, .ref h_t_row, .ref h_t_isUsed, .ref h_t_table, .int t_rank, .long t_determinant])), (h_t_state, .inl (cI, 4, .inl t_state))] H → va_D A [(h_t, .inr (6, [.ref h_t_state, .ref h_t_images, .ref h_t_isKept, .ref h_t_pad, .int t_said, .int t_leastSize, .int t_leastSet, .int t_found, .ref h_t_row, .ref h_t_isUsed, .ref h_t_table, .int t_rank, .long t_determinant])), (h_t_state, .inl (cI, 4, .inl t_state))] → va_S A s.heap H locs → ∀ ls : Array Slot, lv_has ls 8 [(0, .ref h_t), (1, .int v1), (2, .int v2), (3, .int v3), (4, .int v4), (5, .int v5)] → W p l e rm_X6_placeOf s m args below meth c H locs 0 0 Q (F0 m 6 ls []) := by
    intro v1 v2 v3
    intro n
    induction n with
    | zero =>
      intro v4 v5 x hL
      exact (on_loop0 hL).elim
    | succ n ih =>
      intro v4 v5 x hL K1 K2 H locs hP hD hS ls hl
      obtain ⟨y, hM, hk⟩ := on_loopE hL
      have hM : B_X6_placeOf_6 v1 v2 v3 t_state v4 v5 = some y := hM
      unfold B_X6_placeOf_6 at hM
      refine lv_iload hx hb dX6_placeOf_6 (lv_at hl 5 rfl) ?_
      refine lv_aload_n hx hb dX6_placeOf_8 rfl (lv_at hl 0 rfl) ?_
      obtain ⟨q_1, hq_1, hM⟩ := on_bind hM
      refine on_callV (rest := [.int v5]) (As := []) (st1 := [.int q_1, .int v5]) (C := RX6) (ci := 6) (q0 := 0) (wc := [(h_t, .inr (6, [.ref h_t_state, .ref h_t_images, .ref h_t_isKept, .ref h_t_pad, .int t_said, .int t_leastSize, .int t_leastSet, .int t_found, .ref h_t_row, .ref h_t_isUsed, .ref h_t_table, .int t_rank, .long t_determinant])), (h_t_state, .inl (cI, 4, .inl t_state))]) (wr := []) (wc' := [(h_t, .inr (6, [.ref h_t_state, .ref h_t_images, .ref h_t_isKept, .ref h_t_pad, .int t_said, .int t_leastSize, .int t_leastSet, .int t_found, .ref h_t_row, .ref h_t_isUsed, .ref h_t_table, .int t_rank, .long t_determinant])), (h_t_state, .inl (cI, 4, .inl t_state))]) (wf := [(h_t, .inr (6, [.ref h_t_state, .ref h_t_images, .ref h_t_isKept, .ref h_t_pad, .int t_said, .int t_leastSize, .int t_leastSet, .int t_found, .ref h_t_row, .ref h_t_isUsed, .ref h_t_table, .int t_rank, .long t_determinant])), (h_t_state, .inl (cI, 4, .inl t_state))]) (rt := (some (.int q_1))) ⟨hx, hb, hml, hown, hts⟩ (k_X6_many h_t h_t_state h_t_images h_t_isKept h_t_pad h_t_row h_t_isUsed h_t_table t_said t_leastSize t_leastSet t_found t_rank t_determinant t_state q_1 hq_1) (cwV 0 hts gX6_placeOf_X6_many rfl rfl rfl ⟨rfl, hdX6_many⟩ ⟨(Nat.le_of_ble_eq_true rfl), (Nat.le_of_ble_eq_true rfl)⟩) hK hN hP hD hS hA [0, 1] [] [0, 1] rfl rfl rfl rfl (by decide) rfl rfl rfl rfl rfl rfl hl.1 rfl (Nat.le_of_ble_eq_true rfl) rfl dX6_placeOf_9 ⟨Nat.zero_le _, Nat.zero_le _⟩ (fun H locs hP hD hS => ?_)
      refine lv_icmp_ge (tgt := 87) hx hb dX6_placeOf_12 (by decide) (fun c_2 => ?_) (fun c_2 => ?_)
      · have hM := on_pos c_2 hM
        have hk := on_nxR hM hk
        subst hk
        exact K1 _ rfl _ _ hP hD hS ls (lv_sub hl [] rfl)
      · have hM := on_neg c_2 hM
        refine lv_iload hx hb dX6_placeOf_15 (lv_at hl 5 rfl) ?_
        refine lv_iconst (v := 1) hx hb dX6_placeOf_17 (by decide) ?_
        refine lv_iadd hx hb dX6_placeOf_18 ?_
        refine lv_topi (fun v6_3 ev6_3 => ?_)
        have hM := on_letE ev6_3 hM
        refine lv_istore (lv' := [(6, .int v6_3), (0, .ref h_t), (1, .int v1), (2, .int v2), (3, .int v3), (4, .int v4), (5, .int v5)]) hx hb dX6_placeOf_19 hl (by decide) rfl (fun ls hl => ?_)
        obtain ⟨q_21, hq_21, hM⟩ := on_bind hM
        refine lp_21 v1 v2 v3 v5 on_F v4 v6_3 q_21 hq_21 (fun u_22 hv H locs hP hD hS ls hl => ?_) (fun o ho => ?_) H locs hP hD hS ls (lv_sub hl [1, 2, 3, 4, 5, 6, 0] rfl)
        · subst hv
          have hM := on_elR hM
          obtain ⟨v5_23, ev5_23⟩ : ∃ z : Int32, z = v5 + 1 := ⟨_, rfl⟩
          have hM := on_letE ev5_23 hM
          refine lv_iinc (v := v5_23) (lv' := [(5, .int v5_23), (0, .ref h_t), (1, .int v1), (2, .int v2), (3, .int v3), (4, .int u_22)]) hx hb dX6_placeOf_81 hl (k := 5) rfl (by rw [ev5_23]; rfl) (by decide) rfl (fun ls hl => ?_)
          refine lv_goto (tgt := 6) hx hb dX6_placeOf_84 (by decide) ?_
          have hk := on_nxL hM hk
          exact ih u_22 v5_23 _ hk K1 K2 _ _ hP hD hS ls (lv_sub hl [1, 2, 3, 4, 5, 0] rfl)
        · subst ho
          have hM := on_elL hM
          have hk := on_nxR hM hk
          subst hk
          exact K2 _ rfl
  refine lv_iconst (v := 0) hx hb dX6_placeOf_0 (by decide) ?_
  refine lv_istore (lv' := [(4, .int (0 : Int32)), (0, .ref h_t), (1, .int v1), (2, .int v2), (3, .int v3)]) hx hb dX6_placeOf_1 hl (by decide) rfl (fun ls hl => ?_)
  refine lv_iconst (v := 0) hx hb dX6_placeOf_3 (by decide) ?_
  refine lv_istore (lv' := [(5, .int (0 : Int32)), (4, .int (0 : Int32)), (0, .ref h_t), (1, .int v1), (2, .int v2), (3, .int v3)]) hx hb dX6_placeOf_4 hl (by decide) rfl (fun ls hl => ?_)
  obtain ⟨q_24, hq_24, hM⟩ := on_bind hM
  refine lp_6 v1 v2 v3 on_F (0 : Int32) (0 : Int32) q_24 hq_24 (fun u_25 hv H locs hP hD hS ls hl => ?_) (fun o ho => ?_) H locs hP hD hS ls (lv_sub hl [2, 3, 4, 5, 1, 0] rfl)
  · subst hv
    have hM := on_elR hM
    refine lv_bipush (v := -6) hx hb dX6_placeOf_87 (by decide) ?_
    have hM := Option.some.inj hM
    subst hM
    rw [← hQ]
    exact on_iret hx hb hr hlk hP hD hS dX6_placeOf_89
  · subst ho
    have hM := on_elL hM
    exact Option.some.inj hM
abbrev rm_X6_told : Room := { frames := 2, cells := 0, slots := 0, locals := 47 }
set_option maxHeartbeats 4000000 in
set_option maxRecDepth 100000 in
theorem k_X6_told {l : Launch} {D : va_G} {cI cJ cZ cS cA : ClassId} (h_t : Nat) (h_t_state : Nat) (h_t_images : Nat) (h_t_isKept : Nat) (h_t_pad : Nat) (h_t_row : Nat) (h_t_isUsed : Nat) (h_t_table : Nat) (t_said : Int32) (t_leastSize : Int32) (t_leastSet : Int32) (t_found : Int32) (t_rank : Int32) (t_determinant : Int64) (t_state : Nat → Int32) (t_pad : Nat → Int32) (v1 : Int32) (v2 : Int32) (v3 : Int32) (out : Int32) (hM : M_X6_told v1 v2 v3 t_state t_pad = some out) : on_Con l yX6_told wsX6_told rm_X6_told [.ref h_t, .int v1, .int v2, .int v3] D (on_T cI cJ cZ cS cA) [(h_t, .inr (6, [.ref h_t_state, .ref h_t_images, .ref h_t_isKept, .ref h_t_pad, .int t_said, .int t_leastSize, .int t_leastSet, .int t_found, .ref h_t_row, .ref h_t_isUsed, .ref h_t_table, .int t_rank, .long t_determinant])), (h_t_state, .inl (cI, 4, .inl t_state)), (h_t_pad, .inl (cI, 35, .inl t_pad))] (some (.int out)) [(h_t, .inr (6, [.ref h_t_state, .ref h_t_images, .ref h_t_isKept, .ref h_t_pad, .int t_said, .int t_leastSize, .int t_leastSet, .int t_found, .ref h_t_row, .ref h_t_isUsed, .ref h_t_table, .int t_rank, .long t_determinant])), (h_t_state, .inl (cI, 4, .inl t_state)), (h_t_pad, .inl (cI, 35, .inl t_pad))] := by
  unfold M_X6_told at hM
  refine on_enter (cc := cX6_told) (nL := 4) (rt := (some .int)) (own := RX6) (by decide +kernel) rfl rfl (Nat.le_of_ble_eq_true rfl) ?_
  intro p e s m below meth c A ls hx hb hml hr hlk hts hown hA hK hN H locs hP hD hS hl
  have hl : lv_has ls 4 [(0, .ref h_t), (1, .int v1), (2, .int v2), (3, .int v3)] := hl
  generalize hQ : MQ below (on_Q D (some (.int out)) [(h_t, .inr (6, [.ref h_t_state, .ref h_t_images, .ref h_t_isKept, .ref h_t_pad, .int t_said, .int t_leastSize, .int t_leastSet, .int t_found, .ref h_t_row, .ref h_t_isUsed, .ref h_t_table, .int t_rank, .long t_determinant])), (h_t_state, .inl (cI, 4, .inl t_state)), (h_t_pad, .inl (cI, 35, .inl t_pad))] A) _ s 0 0 A = Q
  generalize hAr : List.toArray ([.ref h_t, .int v1, .int v2, .int v3] : List Value) = args at hts hQ ⊢
  have w1 := hts (.fieldLink RX6 20 "OddNetsModel" "pad" "[I") (by decide +kernel)
  have w2 : ∀ w ∈ wsX60, w ∈ wsX6_told := by decide +kernel
  refine lv_aload_n hx hb dX6_told_0 rfl (lv_at hl 0 rfl) ?_
  refine va_get (D := D) (ci := 6) (v := .ref h_t_pad) (C := RX6) (T := TX6) (N := 13) hx hb hts w2 hown hK hP 0 rfl rfl 3 (by decide) w1 (fun _ h9 => h9) rfl dX6_told_1 ?_
  refine lv_aload_n hx hb dX6_told_4 rfl (lv_at hl 0 rfl) ?_
  refine lv_iload_n hx hb dX6_told_5 rfl (lv_at hl 1 rfl) ?_
  refine lv_iload_n hx hb dX6_told_6 rfl (lv_at hl 2 rfl) ?_
  refine lv_iload_n hx hb dX6_told_7 rfl (lv_at hl 3 rfl) ?_
  obtain ⟨q_1, hq_1, hM⟩ := on_bind hM
  refine on_callV (rest := [.ref h_t_pad]) (As := [.int v1, .int v2, .int v3]) (st1 := [.int q_1, .ref h_t_pad]) (C := RX6) (ci := 6) (q0 := 0) (wc := [(h_t, .inr (6, [.ref h_t_state, .ref h_t_images, .ref h_t_isKept, .ref h_t_pad, .int t_said, .int t_leastSize, .int t_leastSet, .int t_found, .ref h_t_row, .ref h_t_isUsed, .ref h_t_table, .int t_rank, .long t_determinant])), (h_t_state, .inl (cI, 4, .inl t_state))]) (wr := [(h_t_pad, .inl (cI, 35, .inl t_pad))]) (wc' := [(h_t, .inr (6, [.ref h_t_state, .ref h_t_images, .ref h_t_isKept, .ref h_t_pad, .int t_said, .int t_leastSize, .int t_leastSet, .int t_found, .ref h_t_row, .ref h_t_isUsed, .ref h_t_table, .int t_rank, .long t_determinant])), (h_t_state, .inl (cI, 4, .inl t_state))]) (wf := [(h_t, .inr (6, [.ref h_t_state, .ref h_t_images, .ref h_t_isKept, .ref h_t_pad, .int t_said, .int t_leastSize, .int t_leastSet, .int t_found, .ref h_t_row, .ref h_t_isUsed, .ref h_t_table, .int t_rank, .long t_determinant])), (h_t_state, .inl (cI, 4, .inl t_state)), (h_t_pad, .inl (cI, 35, .inl t_pad))]) (rt := (some (.int q_1))) ⟨hx, hb, hml, hown, hts⟩ (k_X6_placeOf h_t h_t_state h_t_images h_t_isKept h_t_pad h_t_row h_t_isUsed h_t_table t_said t_leastSize t_leastSet t_found t_rank t_determinant t_state v1 v2 v3 q_1 hq_1) (cwV 3 hts gX6_told_X6_placeOf rfl rfl rfl ⟨rfl, hdX6_placeOf⟩ ⟨(Nat.le_of_ble_eq_true rfl), (Nat.le_of_ble_eq_true rfl)⟩) hK hN hP hD hS hA [0, 1] [2] [1, 2, 0] rfl rfl rfl rfl (by decide) rfl rfl rfl rfl rfl rfl hl.1 rfl (Nat.le_of_ble_eq_true rfl) rfl dX6_told_8 ⟨Nat.zero_le _, Nat.zero_le _⟩ (fun H locs hP hD hS => ?_)
  obtain ⟨g_2, hM⟩ := on_gdE hM
  refine va_iald hx hb hK hP 2 0 rfl rfl (on_ixE g_2) dX6_told_11 ?_
  refine lv_bipush (v := 48) hx hb dX6_told_12 (by decide) ?_
  refine lv_isub hx hb dX6_told_14 ?_
  have hM := Option.some.inj hM
  subst hM
  rw [← hQ]
  exact on_iret hx hb hr hlk hP hD hS dX6_told_15
abbrev rm_X6_fitFour : Room := { frames := 3, cells := 0, slots := 0, locals := 70 }
set_option maxHeartbeats 4000000 in
set_option maxRecDepth 100000 in
theorem k_X6_fitFour {l : Launch} {D : va_G} {cI cJ cZ cS cA : ClassId} (h_t : Nat) (h_t_state : Nat) (h_t_images : Nat) (h_t_isKept : Nat) (h_t_pad : Nat) (h_t_row : Nat) (h_t_isUsed : Nat) (h_t_table : Nat) (t_said : Int32) (t_leastSize : Int32) (t_leastSet : Int32) (t_found : Int32) (t_rank : Int32) (t_determinant : Int64) (t_state : Nat → Int32) (t_pad : Nat → Int32) (v1 : Int32) (v2 : Int32) (v3 : Int32) (v4 : Int32) (out : Int32) (hM : M_X6_fitFour v1 v2 v3 v4 t_state t_pad = some out) : on_Con l yX6_fitFour wsX6_fitFour rm_X6_fitFour [.ref h_t, .int v1, .int v2, .int v3, .int v4] D (on_T cI cJ cZ cS cA) [(h_t, .inr (6, [.ref h_t_state, .ref h_t_images, .ref h_t_isKept, .ref h_t_pad, .int t_said, .int t_leastSize, .int t_leastSet, .int t_found, .ref h_t_row, .ref h_t_isUsed, .ref h_t_table, .int t_rank, .long t_determinant])), (h_t_state, .inl (cI, 4, .inl t_state)), (h_t_pad, .inl (cI, 35, .inl t_pad))] (some (.int out)) [(h_t, .inr (6, [.ref h_t_state, .ref h_t_images, .ref h_t_isKept, .ref h_t_pad, .int t_said, .int t_leastSize, .int t_leastSet, .int t_found, .ref h_t_row, .ref h_t_isUsed, .ref h_t_table, .int t_rank, .long t_determinant])), (h_t_state, .inl (cI, 4, .inl t_state)), (h_t_pad, .inl (cI, 35, .inl t_pad))] := by
  unfold M_X6_fitFour at hM
  refine on_enter (cc := cX6_fitFour) (nL := 5) (rt := (some .boolean)) (own := RX6) (by decide +kernel) rfl rfl (Nat.le_of_ble_eq_true rfl) ?_
  intro p e s m below meth c A ls hx hb hml hr hlk hts hown hA hK hN H locs hP hD hS hl
  have hl : lv_has ls 5 [(0, .ref h_t), (1, .int v1), (2, .int v2), (3, .int v3), (4, .int v4)] := hl
  generalize hQ : MQ below (on_Q D (some (.int out)) [(h_t, .inr (6, [.ref h_t_state, .ref h_t_images, .ref h_t_isKept, .ref h_t_pad, .int t_said, .int t_leastSize, .int t_leastSet, .int t_found, .ref h_t_row, .ref h_t_isUsed, .ref h_t_table, .int t_rank, .long t_determinant])), (h_t_state, .inl (cI, 4, .inl t_state)), (h_t_pad, .inl (cI, 35, .inl t_pad))] A) _ s 0 0 A = Q
  generalize hAr : List.toArray ([.ref h_t, .int v1, .int v2, .int v3, .int v4] : List Value) = args at hts hQ ⊢
  refine lv_aload_n hx hb dX6_fitFour_0 rfl (lv_at hl 0 rfl) ?_
  refine lv_iload_n hx hb dX6_fitFour_1 rfl (lv_at hl 1 rfl) ?_
  refine lv_iload_n hx hb dX6_fitFour_2 rfl (lv_at hl 2 rfl) ?_
  refine lv_iload_n hx hb dX6_fitFour_3 rfl (lv_at hl 3 rfl) ?_
  obtain ⟨q_1, hq_1, hM⟩ := on_bind hM
  refine on_callV (rest := []) (As := [.int v1, .int v2, .int v3]) (st1 := [.int q_1]) (C := RX6) (ci := 6) (q0 := 0) (wc := [(h_t, .inr (6, [.ref h_t_state, .ref h_t_images, .ref h_t_isKept, .ref h_t_pad, .int t_said, .int t_leastSize, .int t_leastSet, .int t_found, .ref h_t_row, .ref h_t_isUsed, .ref h_t_table, .int t_rank, .long t_determinant])), (h_t_state, .inl (cI, 4, .inl t_state)), (h_t_pad, .inl (cI, 35, .inl t_pad))]) (wr := []) (wc' := [(h_t, .inr (6, [.ref h_t_state, .ref h_t_images, .ref h_t_isKept, .ref h_t_pad, .int t_said, .int t_leastSize, .int t_leastSet, .int t_found, .ref h_t_row, .ref h_t_isUsed, .ref h_t_table, .int t_rank, .long t_determinant])), (h_t_state, .inl (cI, 4, .inl t_state)), (h_t_pad, .inl (cI, 35, .inl t_pad))]) (wf := [(h_t, .inr (6, [.ref h_t_state, .ref h_t_images, .ref h_t_isKept, .ref h_t_pad, .int t_said, .int t_leastSize, .int t_leastSet, .int t_found, .ref h_t_row, .ref h_t_isUsed, .ref h_t_table, .int t_rank, .long t_determinant])), (h_t_state, .inl (cI, 4, .inl t_state)), (h_t_pad, .inl (cI, 35, .inl t_pad))]) (rt := (some (.int q_1))) ⟨hx, hb, hml, hown, hts⟩ (k_X6_told h_t h_t_state h_t_images h_t_isKept h_t_pad h_t_row h_t_isUsed h_t_table t_said t_leastSize t_leastSet t_found t_rank t_determinant t_state t_pad v1 v2 v3 q_1 hq_1) (cwV 3 hts gX6_fitFour_X6_told rfl rfl rfl ⟨rfl, hdX6_told⟩ ⟨(Nat.le_of_ble_eq_true rfl), (Nat.le_of_ble_eq_true rfl)⟩) hK hN hP hD hS hA [0, 1, 2] [] [0, 1, 2] rfl rfl rfl rfl (by decide) rfl rfl rfl rfl rfl rfl hl.1 rfl (Nat.le_of_ble_eq_true rfl) rfl dX6_fitFour_4 ⟨Nat.zero_le _, Nat.zero_le _⟩ (fun H locs hP hD hS => ?_)
  refine lv_aload_n hx hb dX6_fitFour_7 rfl (lv_at hl 0 rfl) ?_
  refine lv_iload_n hx hb dX6_fitFour_8 rfl (lv_at hl 1 rfl) ?_
  refine lv_iload_n hx hb dX6_fitFour_9 rfl (lv_at hl 2 rfl) ?_
  refine lv_iload hx hb dX6_fitFour_10 (lv_at hl 4 rfl) ?_
  obtain ⟨q_2, hq_2, hM⟩ := on_bind hM
  refine on_callV (rest := [.int q_1]) (As := [.int v1, .int v2, .int v4]) (st1 := [.int q_2, .int q_1]) (C := RX6) (ci := 6) (q0 := 0) (wc := [(h_t, .inr (6, [.ref h_t_state, .ref h_t_images, .ref h_t_isKept, .ref h_t_pad, .int t_said, .int t_leastSize, .int t_leastSet, .int t_found, .ref h_t_row, .ref h_t_isUsed, .ref h_t_table, .int t_rank, .long t_determinant])), (h_t_state, .inl (cI, 4, .inl t_state)), (h_t_pad, .inl (cI, 35, .inl t_pad))]) (wr := []) (wc' := [(h_t, .inr (6, [.ref h_t_state, .ref h_t_images, .ref h_t_isKept, .ref h_t_pad, .int t_said, .int t_leastSize, .int t_leastSet, .int t_found, .ref h_t_row, .ref h_t_isUsed, .ref h_t_table, .int t_rank, .long t_determinant])), (h_t_state, .inl (cI, 4, .inl t_state)), (h_t_pad, .inl (cI, 35, .inl t_pad))]) (wf := [(h_t, .inr (6, [.ref h_t_state, .ref h_t_images, .ref h_t_isKept, .ref h_t_pad, .int t_said, .int t_leastSize, .int t_leastSet, .int t_found, .ref h_t_row, .ref h_t_isUsed, .ref h_t_table, .int t_rank, .long t_determinant])), (h_t_state, .inl (cI, 4, .inl t_state)), (h_t_pad, .inl (cI, 35, .inl t_pad))]) (rt := (some (.int q_2))) ⟨hx, hb, hml, hown, hts⟩ (k_X6_told h_t h_t_state h_t_images h_t_isKept h_t_pad h_t_row h_t_isUsed h_t_table t_said t_leastSize t_leastSet t_found t_rank t_determinant t_state t_pad v1 v2 v4 q_2 hq_2) (cwV 3 hts gX6_fitFour_X6_told rfl rfl rfl ⟨rfl, hdX6_told⟩ ⟨(Nat.le_of_ble_eq_true rfl), (Nat.le_of_ble_eq_true rfl)⟩) hK hN hP hD hS hA [0, 1, 2] [] [0, 1, 2] rfl rfl rfl rfl (by decide) rfl rfl rfl rfl rfl rfl hl.1 rfl (Nat.le_of_ble_eq_true rfl) rfl dX6_fitFour_12 ⟨Nat.zero_le _, Nat.zero_le _⟩ (fun H locs hP hD hS => ?_)
  refine lv_iadd hx hb dX6_fitFour_15 ?_
  refine lv_aload_n hx hb dX6_fitFour_16 rfl (lv_at hl 0 rfl) ?_
  refine lv_iload_n hx hb dX6_fitFour_17 rfl (lv_at hl 1 rfl) ?_
  refine lv_iload_n hx hb dX6_fitFour_18 rfl (lv_at hl 3 rfl) ?_
  refine lv_iload hx hb dX6_fitFour_19 (lv_at hl 4 rfl) ?_
  obtain ⟨q_3, hq_3, hM⟩ := on_bind hM
  refine on_callV (rest := [.int (q_1 + q_2)]) (As := [.int v1, .int v3, .int v4]) (st1 := [.int q_3, .int (q_1 + q_2)]) (C := RX6) (ci := 6) (q0 := 0) (wc := [(h_t, .inr (6, [.ref h_t_state, .ref h_t_images, .ref h_t_isKept, .ref h_t_pad, .int t_said, .int t_leastSize, .int t_leastSet, .int t_found, .ref h_t_row, .ref h_t_isUsed, .ref h_t_table, .int t_rank, .long t_determinant])), (h_t_state, .inl (cI, 4, .inl t_state)), (h_t_pad, .inl (cI, 35, .inl t_pad))]) (wr := []) (wc' := [(h_t, .inr (6, [.ref h_t_state, .ref h_t_images, .ref h_t_isKept, .ref h_t_pad, .int t_said, .int t_leastSize, .int t_leastSet, .int t_found, .ref h_t_row, .ref h_t_isUsed, .ref h_t_table, .int t_rank, .long t_determinant])), (h_t_state, .inl (cI, 4, .inl t_state)), (h_t_pad, .inl (cI, 35, .inl t_pad))]) (wf := [(h_t, .inr (6, [.ref h_t_state, .ref h_t_images, .ref h_t_isKept, .ref h_t_pad, .int t_said, .int t_leastSize, .int t_leastSet, .int t_found, .ref h_t_row, .ref h_t_isUsed, .ref h_t_table, .int t_rank, .long t_determinant])), (h_t_state, .inl (cI, 4, .inl t_state)), (h_t_pad, .inl (cI, 35, .inl t_pad))]) (rt := (some (.int q_3))) ⟨hx, hb, hml, hown, hts⟩ (k_X6_told h_t h_t_state h_t_images h_t_isKept h_t_pad h_t_row h_t_isUsed h_t_table t_said t_leastSize t_leastSet t_found t_rank t_determinant t_state t_pad v1 v3 v4 q_3 hq_3) (cwV 3 hts gX6_fitFour_X6_told rfl rfl rfl ⟨rfl, hdX6_told⟩ ⟨(Nat.le_of_ble_eq_true rfl), (Nat.le_of_ble_eq_true rfl)⟩) hK hN hP hD hS hA [0, 1, 2] [] [0, 1, 2] rfl rfl rfl rfl (by decide) rfl rfl rfl rfl rfl rfl hl.1 rfl (Nat.le_of_ble_eq_true rfl) rfl dX6_fitFour_21 ⟨Nat.zero_le _, Nat.zero_le _⟩ (fun H locs hP hD hS => ?_)
  refine lv_iadd hx hb dX6_fitFour_24 ?_
  refine lv_aload_n hx hb dX6_fitFour_25 rfl (lv_at hl 0 rfl) ?_
  refine lv_iload_n hx hb dX6_fitFour_26 rfl (lv_at hl 2 rfl) ?_
  refine lv_iload_n hx hb dX6_fitFour_27 rfl (lv_at hl 3 rfl) ?_
  refine lv_iload hx hb dX6_fitFour_28 (lv_at hl 4 rfl) ?_
  obtain ⟨q_4, hq_4, hM⟩ := on_bind hM
  refine on_callV (rest := [.int ((q_1 + q_2) + q_3)]) (As := [.int v2, .int v3, .int v4]) (st1 := [.int q_4, .int ((q_1 + q_2) + q_3)]) (C := RX6) (ci := 6) (q0 := 0) (wc := [(h_t, .inr (6, [.ref h_t_state, .ref h_t_images, .ref h_t_isKept, .ref h_t_pad, .int t_said, .int t_leastSize, .int t_leastSet, .int t_found, .ref h_t_row, .ref h_t_isUsed, .ref h_t_table, .int t_rank, .long t_determinant])), (h_t_state, .inl (cI, 4, .inl t_state)), (h_t_pad, .inl (cI, 35, .inl t_pad))]) (wr := []) (wc' := [(h_t, .inr (6, [.ref h_t_state, .ref h_t_images, .ref h_t_isKept, .ref h_t_pad, .int t_said, .int t_leastSize, .int t_leastSet, .int t_found, .ref h_t_row, .ref h_t_isUsed, .ref h_t_table, .int t_rank, .long t_determinant])), (h_t_state, .inl (cI, 4, .inl t_state)), (h_t_pad, .inl (cI, 35, .inl t_pad))]) (wf := [(h_t, .inr (6, [.ref h_t_state, .ref h_t_images, .ref h_t_isKept, .ref h_t_pad, .int t_said, .int t_leastSize, .int t_leastSet, .int t_found, .ref h_t_row, .ref h_t_isUsed, .ref h_t_table, .int t_rank, .long t_determinant])), (h_t_state, .inl (cI, 4, .inl t_state)), (h_t_pad, .inl (cI, 35, .inl t_pad))]) (rt := (some (.int q_4))) ⟨hx, hb, hml, hown, hts⟩ (k_X6_told h_t h_t_state h_t_images h_t_isKept h_t_pad h_t_row h_t_isUsed h_t_table t_said t_leastSize t_leastSet t_found t_rank t_determinant t_state t_pad v2 v3 v4 q_4 hq_4) (cwV 3 hts gX6_fitFour_X6_told rfl rfl rfl ⟨rfl, hdX6_told⟩ ⟨(Nat.le_of_ble_eq_true rfl), (Nat.le_of_ble_eq_true rfl)⟩) hK hN hP hD hS hA [0, 1, 2] [] [0, 1, 2] rfl rfl rfl rfl (by decide) rfl rfl rfl rfl rfl rfl hl.1 rfl (Nat.le_of_ble_eq_true rfl) rfl dX6_fitFour_30 ⟨Nat.zero_le _, Nat.zero_le _⟩ (fun H locs hP hD hS => ?_)
  refine lv_iadd hx hb dX6_fitFour_33 ?_
  refine lv_iconst (v := 2) hx hb dX6_fitFour_34 (by decide) ?_
  refine lv_irem hx hb dX6_fitFour_35 (by decide) ?_
  refine lv_if_ne (tgt := 43) hx hb dX6_fitFour_36 (by decide) (fun c_5 => ?_) (fun c_5 => ?_)
  · have hM := on_neg c_5 hM
    refine lv_iconst (v := 0) hx hb dX6_fitFour_43 (by decide) ?_
    have hM := Option.some.inj hM
    subst hM
    rw [← hQ]
    exact on_zret hx hb hr hlk hP hD hS rfl dX6_fitFour_44
  · have hM := on_pos c_5 hM
    refine lv_iconst (v := 1) hx hb dX6_fitFour_39 (by decide) ?_
    refine lv_goto (tgt := 44) hx hb dX6_fitFour_40 (by decide) ?_
    have hM := Option.some.inj hM
    subst hM
    rw [← hQ]
    exact on_zret hx hb hr hlk hP hD hS rfl dX6_fitFour_44
abbrev rm_X6_areFit : Room := { frames := 4, cells := 0, slots := 0, locals := 94 }
set_option maxHeartbeats 4000000 in
set_option maxRecDepth 100000 in
theorem k_X6_areFit {l : Launch} {D : va_G} {cI cJ cZ cS cA : ClassId} (h_t : Nat) (h_t_state : Nat) (h_t_images : Nat) (h_t_isKept : Nat) (h_t_pad : Nat) (h_t_row : Nat) (h_t_isUsed : Nat) (h_t_table : Nat) (t_said : Int32) (t_leastSize : Int32) (t_leastSet : Int32) (t_found : Int32) (t_rank : Int32) (t_determinant : Int64) (t_state : Nat → Int32) (t_pad : Nat → Int32)  (out : Int32) (hM : M_X6_areFit t_state t_pad = some out) : on_Con l yX6_areFit wsX6_areFit rm_X6_areFit [.ref h_t] D (on_T cI cJ cZ cS cA) [(h_t, .inr (6, [.ref h_t_state, .ref h_t_images, .ref h_t_isKept, .ref h_t_pad, .int t_said, .int t_leastSize, .int t_leastSet, .int t_found, .ref h_t_row, .ref h_t_isUsed, .ref h_t_table, .int t_rank, .long t_determinant])), (h_t_state, .inl (cI, 4, .inl t_state)), (h_t_pad, .inl (cI, 35, .inl t_pad))] (some (.int out)) [(h_t, .inr (6, [.ref h_t_state, .ref h_t_images, .ref h_t_isKept, .ref h_t_pad, .int t_said, .int t_leastSize, .int t_leastSet, .int t_found, .ref h_t_row, .ref h_t_isUsed, .ref h_t_table, .int t_rank, .long t_determinant])), (h_t_state, .inl (cI, 4, .inl t_state)), (h_t_pad, .inl (cI, 35, .inl t_pad))] := by
  unfold M_X6_areFit at hM
  refine on_enter (cc := cX6_areFit) (nL := 6) (rt := (some .boolean)) (own := RX6) (by decide +kernel) rfl rfl (Nat.le_of_ble_eq_true rfl) ?_
  intro p e s m below meth c A ls hx hb hml hr hlk hts hown hA hK hN H locs hP hD hS hl
  have hl : lv_has ls 6 [(0, .ref h_t)] := hl
  generalize hQ : MQ below (on_Q D (some (.int out)) [(h_t, .inr (6, [.ref h_t_state, .ref h_t_images, .ref h_t_isKept, .ref h_t_pad, .int t_said, .int t_leastSize, .int t_leastSet, .int t_found, .ref h_t_row, .ref h_t_isUsed, .ref h_t_table, .int t_rank, .long t_determinant])), (h_t_state, .inl (cI, 4, .inl t_state)), (h_t_pad, .inl (cI, 35, .inl t_pad))] A) _ s 0 0 A = Q
  generalize hAr : List.toArray ([.ref h_t] : List Value) = args at hts hQ ⊢
  have lp_44 : ∀ (v2 : Int32) (v3 : Int32) (v4 : Int32), ∀ (n : Nat) (v1 : Int32) (v5 : Int32) (x : Int32), on_loop (fun (s : Int32 × Int32) => B_X6_areFit_44 v2 v3 v4 t_state t_pad s.1 s.2) n (v1, v5) = some x → (∀ (H : Heap) (locs : List Loc), va_P D vwCl [(h_t, .inr (6, [.ref h_t_state, .ref h_t_images, .ref h_t_isKept, .ref h_t_pad, .int t_said, .int t_leastSize, .int t_leastSet, .int t_found, .ref h_t_row, .ref h_t_isUsed, .ref h_t_table, .int t_rank, .long t_determinant])), (h_t_state, .inl (cI, 4, .inl t_state)), (h_t_pad, .inl (cI, 35, .inl t_pad))] H → va_D A [(h_t, .inr (6, [.ref h_t_state, .ref h_t_images, .ref h_t_isKept, .ref h_t_pad, .int t_said, .int t_leastSize, .int t_leastSet, .int t_found, .ref h_t_row, .ref h_t_isUsed, .ref h_t_table, .int t_rank, .long t_determinant])), (h_t_state, .inl (cI, 4, .inl t_state)), (h_t_pad, .inl (cI, 35, .inl t_pad))] → va_S A s.heap H locs → ∀ ls : Array Slot, lv_has ls 6 [(0, .ref h_t), (1, .int x), (2, .int v2), (3, .int v3), (4, .int v4)] → W p l e rm_X6_areFit s m args below meth c H locs 0 0 Q (F0 m 82 ls [])) → ∀ (H : Heap) (locs : List Loc), va_P D vwCl [(h_t, .inr (6, [.ref h_t_state, .ref h_t_images, .ref h_t_isKept, .ref h_t_pad, .int t_said, .int t_leastSize, .int t_leastSet, .int t_found, .ref h_t_row, .ref h_t_isUsed, .ref h_t_table, .int t_rank, .long t_determinant])), (h_t_state, .inl (cI, 4, .inl t_state)), (h_t_pad, .inl (cI, 35, .inl t_pad))] H → va_D A [(h_t, .inr (6, [.ref h_t_state, .ref h_t_images, .ref h_t_isKept, .ref h_t_pad, .int t_said, .int t_leastSize, .int t_leastSet, .int t_found, .ref h_t_row, .ref h_t_isUsed, .ref h_t_table, .int t_rank, .long t_determinant])), (h_t_state, .inl (cI, 4, .inl t_state)), (h_t_pad, .inl (cI, 35, .inl t_pad))] → va_S A s.heap H locs → ∀ ls : Array Slot, lv_has ls 6 [(0, .ref h_t), (1, .int v1), (2, .int v2), (3, .int v3), (4, .int v4), (5, .int v5)] → W p l e rm_X6_areFit s m args below meth c H locs 0 0 Q (F0 m 44 ls []) := by
    intro v2 v3 v4
    intro n
    induction n with
    | zero =>
      intro v1 v5 x hL
      exact (on_loop0 hL).elim
    | succ n ih =>
      intro v1 v5 x hL K1 H locs hP hD hS ls hl
      obtain ⟨y, hM, hk⟩ := on_loopE hL
      have hM : B_X6_areFit_44 v2 v3 v4 t_state t_pad v1 v5 = some y := hM
      unfold B_X6_areFit_44 at hM
      refine lv_iload hx hb dX6_areFit_44 (lv_at hl 5 rfl) ?_
      refine lv_aload_n hx hb dX6_areFit_46 rfl (lv_at hl 0 rfl) ?_
      obtain ⟨q_10, hq_10, hM⟩ := on_bind hM
      refine on_callV (rest := [.int v5]) (As := []) (st1 := [.int q_10, .int v5]) (C := RX6) (ci := 6) (q0 := 0) (wc := [(h_t, .inr (6, [.ref h_t_state, .ref h_t_images, .ref h_t_isKept, .ref h_t_pad, .int t_said, .int t_leastSize, .int t_leastSet, .int t_found, .ref h_t_row, .ref h_t_isUsed, .ref h_t_table, .int t_rank, .long t_determinant])), (h_t_state, .inl (cI, 4, .inl t_state))]) (wr := [(h_t_pad, .inl (cI, 35, .inl t_pad))]) (wc' := [(h_t, .inr (6, [.ref h_t_state, .ref h_t_images, .ref h_t_isKept, .ref h_t_pad, .int t_said, .int t_leastSize, .int t_leastSet, .int t_found, .ref h_t_row, .ref h_t_isUsed, .ref h_t_table, .int t_rank, .long t_determinant])), (h_t_state, .inl (cI, 4, .inl t_state))]) (wf := [(h_t, .inr (6, [.ref h_t_state, .ref h_t_images, .ref h_t_isKept, .ref h_t_pad, .int t_said, .int t_leastSize, .int t_leastSet, .int t_found, .ref h_t_row, .ref h_t_isUsed, .ref h_t_table, .int t_rank, .long t_determinant])), (h_t_state, .inl (cI, 4, .inl t_state)), (h_t_pad, .inl (cI, 35, .inl t_pad))]) (rt := (some (.int q_10))) ⟨hx, hb, hml, hown, hts⟩ (k_X6_many h_t h_t_state h_t_images h_t_isKept h_t_pad h_t_row h_t_isUsed h_t_table t_said t_leastSize t_leastSet t_found t_rank t_determinant t_state q_10 hq_10) (cwV 0 hts gX6_areFit_X6_many rfl rfl rfl ⟨rfl, hdX6_many⟩ ⟨(Nat.le_of_ble_eq_true rfl), (Nat.le_of_ble_eq_true rfl)⟩) hK hN hP hD hS hA [0, 1] [2] [1, 2, 0] rfl rfl rfl rfl (by decide) rfl rfl rfl rfl rfl rfl hl.1 rfl (Nat.le_of_ble_eq_true rfl) rfl dX6_areFit_47 ⟨Nat.zero_le _, Nat.zero_le _⟩ (fun H locs hP hD hS => ?_)
      refine lv_icmp_ge (tgt := 82) hx hb dX6_areFit_50 (by decide) (fun c_11 => ?_) (fun c_11 => ?_)
      · have hM := on_pos c_11 hM
        have hk := on_nxR hM hk
        subst hk
        exact K1 _ _ hP hD hS ls (lv_sub hl [0, 1, 2, 3, 4] rfl)
      · have hM := on_neg c_11 hM
        refine lv_iload_n hx hb dX6_areFit_53 rfl (lv_at hl 1 rfl) ?_
        refine lv_if_eq (tgt := 74) hx hb dX6_areFit_54 (by decide) (fun c_12 => ?_) (fun c_12 => ?_)
        · have hM := on_pos c_12 hM
          refine lv_iconst (v := 0) hx hb dX6_areFit_74 (by decide) ?_
          refine lv_istore_n (lv' := [(1, .int (0 : Int32)), (0, .ref h_t), (2, .int v2), (3, .int v3), (4, .int v4), (5, .int v5)]) hx hb dX6_areFit_75 rfl hl (by decide) rfl (fun ls hl => ?_)
          obtain ⟨v5_13, ev5_13⟩ : ∃ z : Int32, z = v5 + 1 := ⟨_, rfl⟩
          have hM := on_letE ev5_13 hM
          refine lv_iinc (v := v5_13) (lv' := [(5, .int v5_13), (1, .int (0 : Int32)), (0, .ref h_t), (2, .int v2), (3, .int v3), (4, .int v4)]) hx hb dX6_areFit_76 hl (k := 5) rfl (by rw [ev5_13]; rfl) (by decide) rfl (fun ls hl => ?_)
          refine lv_goto (tgt := 44) hx hb dX6_areFit_79 (by decide) ?_
          have hk := on_nxL hM hk
          exact ih (0 : Int32) v5_13 _ hk K1 _ _ hP hD hS ls (lv_sub hl [2, 1, 3, 4, 5, 0] rfl)
        · have hM := on_neg c_12 hM
          refine lv_aload_n hx hb dX6_areFit_57 rfl (lv_at hl 0 rfl) ?_
          refine lv_iload_n hx hb dX6_areFit_58 rfl (lv_at hl 2 rfl) ?_
          refine lv_iload_n hx hb dX6_areFit_59 rfl (lv_at hl 3 rfl) ?_
          refine lv_iload hx hb dX6_areFit_60 (lv_at hl 4 rfl) ?_
          refine lv_iload hx hb dX6_areFit_62 (lv_at hl 5 rfl) ?_
          obtain ⟨q_14, hq_14, hM⟩ := on_bind hM
          refine on_callV (rest := []) (As := [.int v2, .int v3, .int v4, .int v5]) (st1 := [.int q_14]) (C := RX6) (ci := 6) (q0 := 0) (wc := [(h_t, .inr (6, [.ref h_t_state, .ref h_t_images, .ref h_t_isKept, .ref h_t_pad, .int t_said, .int t_leastSize, .int t_leastSet, .int t_found, .ref h_t_row, .ref h_t_isUsed, .ref h_t_table, .int t_rank, .long t_determinant])), (h_t_state, .inl (cI, 4, .inl t_state)), (h_t_pad, .inl (cI, 35, .inl t_pad))]) (wr := []) (wc' := [(h_t, .inr (6, [.ref h_t_state, .ref h_t_images, .ref h_t_isKept, .ref h_t_pad, .int t_said, .int t_leastSize, .int t_leastSet, .int t_found, .ref h_t_row, .ref h_t_isUsed, .ref h_t_table, .int t_rank, .long t_determinant])), (h_t_state, .inl (cI, 4, .inl t_state)), (h_t_pad, .inl (cI, 35, .inl t_pad))]) (wf := [(h_t, .inr (6, [.ref h_t_state, .ref h_t_images, .ref h_t_isKept, .ref h_t_pad, .int t_said, .int t_leastSize, .int t_leastSet, .int t_found, .ref h_t_row, .ref h_t_isUsed, .ref h_t_table, .int t_rank, .long t_determinant])), (h_t_state, .inl (cI, 4, .inl t_state)), (h_t_pad, .inl (cI, 35, .inl t_pad))]) (rt := (some (.int q_14))) ⟨hx, hb, hml, hown, hts⟩ (k_X6_fitFour h_t h_t_state h_t_images h_t_isKept h_t_pad h_t_row h_t_isUsed h_t_table t_said t_leastSize t_leastSet t_found t_rank t_determinant t_state t_pad v2 v3 v4 v5 q_14 hq_14) (cwV 4 hts gX6_areFit_X6_fitFour rfl rfl rfl ⟨rfl, hdX6_fitFour⟩ ⟨(Nat.le_of_ble_eq_true rfl), (Nat.le_of_ble_eq_true rfl)⟩) hK hN hP hD hS hA [0, 1, 2] [] [0, 1, 2] rfl rfl rfl rfl (by decide) rfl rfl rfl rfl rfl rfl hl.1 rfl (Nat.le_of_ble_eq_true rfl) rfl dX6_areFit_64 ⟨Nat.zero_le _, Nat.zero_le _⟩ (fun H locs hP hD hS => ?_)
          refine lv_if_eq (tgt := 74) hx hb dX6_areFit_67 (by decide) (fun c_15 => ?_) (fun c_15 => ?_)
          · have hM := on_pos c_15 hM
            refine lv_iconst (v := 0) hx hb dX6_areFit_74 (by decide) ?_
            refine lv_istore_n (lv' := [(1, .int (0 : Int32)), (0, .ref h_t), (2, .int v2), (3, .int v3), (4, .int v4), (5, .int v5)]) hx hb dX6_areFit_75 rfl hl (by decide) rfl (fun ls hl => ?_)
            obtain ⟨v5_16, ev5_16⟩ : ∃ z : Int32, z = v5 + 1 := ⟨_, rfl⟩
            have hM := on_letE ev5_16 hM
            refine lv_iinc (v := v5_16) (lv' := [(5, .int v5_16), (1, .int (0 : Int32)), (0, .ref h_t), (2, .int v2), (3, .int v3), (4, .int v4)]) hx hb dX6_areFit_76 hl (k := 5) rfl (by rw [ev5_16]; rfl) (by decide) rfl (fun ls hl => ?_)
            refine lv_goto (tgt := 44) hx hb dX6_areFit_79 (by decide) ?_
            have hk := on_nxL hM hk
            exact ih (0 : Int32) v5_16 _ hk K1 _ _ hP hD hS ls (lv_sub hl [2, 1, 3, 4, 5, 0] rfl)
          · have hM := on_neg c_15 hM
            refine lv_iconst (v := 1) hx hb dX6_areFit_70 (by decide) ?_
            refine lv_goto (tgt := 75) hx hb dX6_areFit_71 (by decide) ?_
            refine lv_istore_n (lv' := [(1, .int (1 : Int32)), (0, .ref h_t), (2, .int v2), (3, .int v3), (4, .int v4), (5, .int v5)]) hx hb dX6_areFit_75 rfl hl (by decide) rfl (fun ls hl => ?_)
            obtain ⟨v5_17, ev5_17⟩ : ∃ z : Int32, z = v5 + 1 := ⟨_, rfl⟩
            have hM := on_letE ev5_17 hM
            refine lv_iinc (v := v5_17) (lv' := [(5, .int v5_17), (1, .int (1 : Int32)), (0, .ref h_t), (2, .int v2), (3, .int v3), (4, .int v4)]) hx hb dX6_areFit_76 hl (k := 5) rfl (by rw [ev5_17]; rfl) (by decide) rfl (fun ls hl => ?_)
            refine lv_goto (tgt := 44) hx hb dX6_areFit_79 (by decide) ?_
            have hk := on_nxL hM hk
            exact ih (1 : Int32) v5_17 _ hk K1 _ _ hP hD hS ls (lv_sub hl [2, 1, 3, 4, 5, 0] rfl)
  have lp_29 : ∀ (v2 : Int32) (v3 : Int32), ∀ (n : Nat) (v1 : Int32) (v4 : Int32) (x : Int32), on_loop (fun (s : Int32 × Int32) => B_X6_areFit_29 v2 v3 t_state t_pad s.1 s.2) n (v1, v4) = some x → (∀ (H : Heap) (locs : List Loc), va_P D vwCl [(h_t, .inr (6, [.ref h_t_state, .ref h_t_images, .ref h_t_isKept, .ref h_t_pad, .int t_said, .int t_leastSize, .int t_leastSet, .int t_found, .ref h_t_row, .ref h_t_isUsed, .ref h_t_table, .int t_rank, .long t_determinant])), (h_t_state, .inl (cI, 4, .inl t_state)), (h_t_pad, .inl (cI, 35, .inl t_pad))] H → va_D A [(h_t, .inr (6, [.ref h_t_state, .ref h_t_images, .ref h_t_isKept, .ref h_t_pad, .int t_said, .int t_leastSize, .int t_leastSet, .int t_found, .ref h_t_row, .ref h_t_isUsed, .ref h_t_table, .int t_rank, .long t_determinant])), (h_t_state, .inl (cI, 4, .inl t_state)), (h_t_pad, .inl (cI, 35, .inl t_pad))] → va_S A s.heap H locs → ∀ ls : Array Slot, lv_has ls 6 [(0, .ref h_t), (1, .int x), (2, .int v2), (3, .int v3)] → W p l e rm_X6_areFit s m args below meth c H locs 0 0 Q (F0 m 88 ls [])) → ∀ (H : Heap) (locs : List Loc), va_P D vwCl [(h_t, .inr (6, [.ref h_t_state, .ref h_t_images, .ref h_t_isKept, .ref h_t_pad, .int t_said, .int t_leastSize, .int t_leastSet, .int t_found, .ref h_t_row, .ref h_t_isUsed, .ref h_t_table, .int t_rank, .long t_determinant])), (h_t_state, .inl (cI, 4, .inl t_state)), (h_t_pad, .inl (cI, 35, .inl t_pad))] H → va_D A [(h_t, .inr (6, [.ref h_t_state, .ref h_t_images, .ref h_t_isKept, .ref h_t_pad, .int t_said, .int t_leastSize, .int t_leastSet, .int t_found, .ref h_t_row, .ref h_t_isUsed, .ref h_t_table, .int t_rank, .long t_determinant])), (h_t_state, .inl (cI, 4, .inl t_state)), (h_t_pad, .inl (cI, 35, .inl t_pad))] → va_S A s.heap H locs → ∀ ls : Array Slot, lv_has ls 6 [(0, .ref h_t), (1, .int v1), (2, .int v2), (3, .int v3), (4, .int v4)] → W p l e rm_X6_areFit s m args below meth c H locs 0 0 Q (F0 m 29 ls []) := by
    intro v2 v3
    intro n
    induction n with
    | zero =>
      intro v1 v4 x hL
      exact (on_loop0 hL).elim
    | succ n ih =>
      intro v1 v4 x hL K1 H locs hP hD hS ls hl
      obtain ⟨y, hM, hk⟩ := on_loopE hL
      have hM : B_X6_areFit_29 v2 v3 t_state t_pad v1 v4 = some y := hM
      unfold B_X6_areFit_29 at hM
      refine lv_iload hx hb dX6_areFit_29 (lv_at hl 4 rfl) ?_
      refine lv_aload_n hx hb dX6_areFit_31 rfl (lv_at hl 0 rfl) ?_
      obtain ⟨q_7, hq_7, hM⟩ := on_bind hM
      refine on_callV (rest := [.int v4]) (As := []) (st1 := [.int q_7, .int v4]) (C := RX6) (ci := 6) (q0 := 0) (wc := [(h_t, .inr (6, [.ref h_t_state, .ref h_t_images, .ref h_t_isKept, .ref h_t_pad, .int t_said, .int t_leastSize, .int t_leastSet, .int t_found, .ref h_t_row, .ref h_t_isUsed, .ref h_t_table, .int t_rank, .long t_determinant])), (h_t_state, .inl (cI, 4, .inl t_state))]) (wr := [(h_t_pad, .inl (cI, 35, .inl t_pad))]) (wc' := [(h_t, .inr (6, [.ref h_t_state, .ref h_t_images, .ref h_t_isKept, .ref h_t_pad, .int t_said, .int t_leastSize, .int t_leastSet, .int t_found, .ref h_t_row, .ref h_t_isUsed, .ref h_t_table, .int t_rank, .long t_determinant])), (h_t_state, .inl (cI, 4, .inl t_state))]) (wf := [(h_t, .inr (6, [.ref h_t_state, .ref h_t_images, .ref h_t_isKept, .ref h_t_pad, .int t_said, .int t_leastSize, .int t_leastSet, .int t_found, .ref h_t_row, .ref h_t_isUsed, .ref h_t_table, .int t_rank, .long t_determinant])), (h_t_state, .inl (cI, 4, .inl t_state)), (h_t_pad, .inl (cI, 35, .inl t_pad))]) (rt := (some (.int q_7))) ⟨hx, hb, hml, hown, hts⟩ (k_X6_many h_t h_t_state h_t_images h_t_isKept h_t_pad h_t_row h_t_isUsed h_t_table t_said t_leastSize t_leastSet t_found t_rank t_determinant t_state q_7 hq_7) (cwV 0 hts gX6_areFit_X6_many rfl rfl rfl ⟨rfl, hdX6_many⟩ ⟨(Nat.le_of_ble_eq_true rfl), (Nat.le_of_ble_eq_true rfl)⟩) hK hN hP hD hS hA [0, 1] [2] [1, 2, 0] rfl rfl rfl rfl (by decide) rfl rfl rfl rfl rfl rfl hl.1 rfl (Nat.le_of_ble_eq_true rfl) rfl dX6_areFit_32 ⟨Nat.zero_le _, Nat.zero_le _⟩ (fun H locs hP hD hS => ?_)
      refine lv_icmp_ge (tgt := 88) hx hb dX6_areFit_35 (by decide) (fun c_8 => ?_) (fun c_8 => ?_)
      · have hM := on_pos c_8 hM
        have hk := on_nxR hM hk
        subst hk
        exact K1 _ _ hP hD hS ls (lv_sub hl [0, 1, 2, 3] rfl)
      · have hM := on_neg c_8 hM
        refine lv_iload hx hb dX6_areFit_38 (lv_at hl 4 rfl) ?_
        refine lv_iconst (v := 1) hx hb dX6_areFit_40 (by decide) ?_
        refine lv_iadd hx hb dX6_areFit_41 ?_
        refine lv_topi (fun v5_9 ev5_9 => ?_)
        have hM := on_letE ev5_9 hM
        refine lv_istore (lv' := [(5, .int v5_9), (0, .ref h_t), (1, .int v1), (2, .int v2), (3, .int v3), (4, .int v4)]) hx hb dX6_areFit_42 hl (by decide) rfl (fun ls hl => ?_)
        obtain ⟨q_18, hq_18, hM⟩ := on_bind hM
        refine lp_44 v2 v3 v4 on_F v1 v5_9 q_18 hq_18 (fun H locs hP hD hS ls hl => ?_) H locs hP hD hS ls (lv_sub hl [1, 2, 3, 4, 5, 0] rfl)
        obtain ⟨v4_19, ev4_19⟩ : ∃ z : Int32, z = v4 + 1 := ⟨_, rfl⟩
        have hM := on_letE ev4_19 hM
        refine lv_iinc (v := v4_19) (lv' := [(4, .int v4_19), (0, .ref h_t), (1, .int q_18), (2, .int v2), (3, .int v3)]) hx hb dX6_areFit_82 hl (k := 4) rfl (by rw [ev4_19]; rfl) (by decide) rfl (fun ls hl => ?_)
        refine lv_goto (tgt := 29) hx hb dX6_areFit_85 (by decide) ?_
        have hk := on_nxL hM hk
        exact ih q_18 v4_19 _ hk K1 _ _ hP hD hS ls (lv_sub hl [1, 2, 3, 4, 0] rfl)
  have lp_16 : ∀ (v2 : Int32), ∀ (n : Nat) (v1 : Int32) (v3 : Int32) (x : Int32), on_loop (fun (s : Int32 × Int32) => B_X6_areFit_16 v2 t_state t_pad s.1 s.2) n (v1, v3) = some x → (∀ (H : Heap) (locs : List Loc), va_P D vwCl [(h_t, .inr (6, [.ref h_t_state, .ref h_t_images, .ref h_t_isKept, .ref h_t_pad, .int t_said, .int t_leastSize, .int t_leastSet, .int t_found, .ref h_t_row, .ref h_t_isUsed, .ref h_t_table, .int t_rank, .long t_determinant])), (h_t_state, .inl (cI, 4, .inl t_state)), (h_t_pad, .inl (cI, 35, .inl t_pad))] H → va_D A [(h_t, .inr (6, [.ref h_t_state, .ref h_t_images, .ref h_t_isKept, .ref h_t_pad, .int t_said, .int t_leastSize, .int t_leastSet, .int t_found, .ref h_t_row, .ref h_t_isUsed, .ref h_t_table, .int t_rank, .long t_determinant])), (h_t_state, .inl (cI, 4, .inl t_state)), (h_t_pad, .inl (cI, 35, .inl t_pad))] → va_S A s.heap H locs → ∀ ls : Array Slot, lv_has ls 6 [(0, .ref h_t), (1, .int x), (2, .int v2)] → W p l e rm_X6_areFit s m args below meth c H locs 0 0 Q (F0 m 94 ls [])) → ∀ (H : Heap) (locs : List Loc), va_P D vwCl [(h_t, .inr (6, [.ref h_t_state, .ref h_t_images, .ref h_t_isKept, .ref h_t_pad, .int t_said, .int t_leastSize, .int t_leastSet, .int t_found, .ref h_t_row, .ref h_t_isUsed, .ref h_t_table, .int t_rank, .long t_determinant])), (h_t_state, .inl (cI, 4, .inl t_state)), (h_t_pad, .inl (cI, 35, .inl t_pad))] H → va_D A [(h_t, .inr (6, [.ref h_t_state, .ref h_t_images, .ref h_t_isKept, .ref h_t_pad, .int t_said, .int t_leastSize, .int t_leastSet, .int t_found, .ref h_t_row, .ref h_t_isUsed, .ref h_t_table, .int t_rank, .long t_determinant])), (h_t_state, .inl (cI, 4, .inl t_state)), (h_t_pad, .inl (cI, 35, .inl t_pad))] → va_S A s.heap H locs → ∀ ls : Array Slot, lv_has ls 6 [(0, .ref h_t), (1, .int v1), (2, .int v2), (3, .int v3)] → W p l e rm_X6_areFit s m args below meth c H locs 0 0 Q (F0 m 16 ls []) := by
    intro v2
    intro n
    induction n with
    | zero =>
      intro v1 v3 x hL
      exact (on_loop0 hL).elim
    | succ n ih =>
      intro v1 v3 x hL K1 H locs hP hD hS ls hl
      obtain ⟨y, hM, hk⟩ := on_loopE hL
      have hM : B_X6_areFit_16 v2 t_state t_pad v1 v3 = some y := hM
      unfold B_X6_areFit_16 at hM
      refine lv_iload_n hx hb dX6_areFit_16 rfl (lv_at hl 3 rfl) ?_
      refine lv_aload_n hx hb dX6_areFit_17 rfl (lv_at hl 0 rfl) ?_
      obtain ⟨q_4, hq_4, hM⟩ := on_bind hM
      refine on_callV (rest := [.int v3]) (As := []) (st1 := [.int q_4, .int v3]) (C := RX6) (ci := 6) (q0 := 0) (wc := [(h_t, .inr (6, [.ref h_t_state, .ref h_t_images, .ref h_t_isKept, .ref h_t_pad, .int t_said, .int t_leastSize, .int t_leastSet, .int t_found, .ref h_t_row, .ref h_t_isUsed, .ref h_t_table, .int t_rank, .long t_determinant])), (h_t_state, .inl (cI, 4, .inl t_state))]) (wr := [(h_t_pad, .inl (cI, 35, .inl t_pad))]) (wc' := [(h_t, .inr (6, [.ref h_t_state, .ref h_t_images, .ref h_t_isKept, .ref h_t_pad, .int t_said, .int t_leastSize, .int t_leastSet, .int t_found, .ref h_t_row, .ref h_t_isUsed, .ref h_t_table, .int t_rank, .long t_determinant])), (h_t_state, .inl (cI, 4, .inl t_state))]) (wf := [(h_t, .inr (6, [.ref h_t_state, .ref h_t_images, .ref h_t_isKept, .ref h_t_pad, .int t_said, .int t_leastSize, .int t_leastSet, .int t_found, .ref h_t_row, .ref h_t_isUsed, .ref h_t_table, .int t_rank, .long t_determinant])), (h_t_state, .inl (cI, 4, .inl t_state)), (h_t_pad, .inl (cI, 35, .inl t_pad))]) (rt := (some (.int q_4))) ⟨hx, hb, hml, hown, hts⟩ (k_X6_many h_t h_t_state h_t_images h_t_isKept h_t_pad h_t_row h_t_isUsed h_t_table t_said t_leastSize t_leastSet t_found t_rank t_determinant t_state q_4 hq_4) (cwV 0 hts gX6_areFit_X6_many rfl rfl rfl ⟨rfl, hdX6_many⟩ ⟨(Nat.le_of_ble_eq_true rfl), (Nat.le_of_ble_eq_true rfl)⟩) hK hN hP hD hS hA [0, 1] [2] [1, 2, 0] rfl rfl rfl rfl (by decide) rfl rfl rfl rfl rfl rfl hl.1 rfl (Nat.le_of_ble_eq_true rfl) rfl dX6_areFit_18 ⟨Nat.zero_le _, Nat.zero_le _⟩ (fun H locs hP hD hS => ?_)
      refine lv_icmp_ge (tgt := 94) hx hb dX6_areFit_21 (by decide) (fun c_5 => ?_) (fun c_5 => ?_)
      · have hM := on_pos c_5 hM
        have hk := on_nxR hM hk
        subst hk
        exact K1 _ _ hP hD hS ls (lv_sub hl [0, 1, 2] rfl)
      · have hM := on_neg c_5 hM
        refine lv_iload_n hx hb dX6_areFit_24 rfl (lv_at hl 3 rfl) ?_
        refine lv_iconst (v := 1) hx hb dX6_areFit_25 (by decide) ?_
        refine lv_iadd hx hb dX6_areFit_26 ?_
        refine lv_topi (fun v4_6 ev4_6 => ?_)
        have hM := on_letE ev4_6 hM
        refine lv_istore (lv' := [(4, .int v4_6), (0, .ref h_t), (1, .int v1), (2, .int v2), (3, .int v3)]) hx hb dX6_areFit_27 hl (by decide) rfl (fun ls hl => ?_)
        obtain ⟨q_20, hq_20, hM⟩ := on_bind hM
        refine lp_29 v2 v3 on_F v1 v4_6 q_20 hq_20 (fun H locs hP hD hS ls hl => ?_) H locs hP hD hS ls (lv_sub hl [1, 2, 3, 4, 0] rfl)
        obtain ⟨v3_21, ev3_21⟩ : ∃ z : Int32, z = v3 + 1 := ⟨_, rfl⟩
        have hM := on_letE ev3_21 hM
        refine lv_iinc (v := v3_21) (lv' := [(3, .int v3_21), (0, .ref h_t), (1, .int q_20), (2, .int v2)]) hx hb dX6_areFit_88 hl (k := 3) rfl (by rw [ev3_21]; rfl) (by decide) rfl (fun ls hl => ?_)
        refine lv_goto (tgt := 16) hx hb dX6_areFit_91 (by decide) ?_
        have hk := on_nxL hM hk
        exact ih q_20 v3_21 _ hk K1 _ _ hP hD hS ls (lv_sub hl [1, 2, 3, 0] rfl)
  have lp_4 : ∀ (n : Nat) (v1 : Int32) (v2 : Int32) (x : Int32), on_loop (fun (s : Int32 × Int32) => B_X6_areFit_4 t_state t_pad s.1 s.2) n (v1, v2) = some x → (∀ (H : Heap) (locs : List Loc), va_P D vwCl [(h_t, .inr (6, [.ref h_t_state, .ref h_t_images, .ref h_t_isKept, .ref h_t_pad, .int t_said, .int t_leastSize, .int t_leastSet, .int t_found, .ref h_t_row, .ref h_t_isUsed, .ref h_t_table, .int t_rank, .long t_determinant])), (h_t_state, .inl (cI, 4, .inl t_state)), (h_t_pad, .inl (cI, 35, .inl t_pad))] H → va_D A [(h_t, .inr (6, [.ref h_t_state, .ref h_t_images, .ref h_t_isKept, .ref h_t_pad, .int t_said, .int t_leastSize, .int t_leastSet, .int t_found, .ref h_t_row, .ref h_t_isUsed, .ref h_t_table, .int t_rank, .long t_determinant])), (h_t_state, .inl (cI, 4, .inl t_state)), (h_t_pad, .inl (cI, 35, .inl t_pad))] → va_S A s.heap H locs → ∀ ls : Array Slot, lv_has ls 6 [(1, .int x)] → W p l e rm_X6_areFit s m args below meth c H locs 0 0 Q (F0 m 100 ls [])) → ∀ (H : Heap) (locs : List Loc), va_P D vwCl [(h_t, .inr (6, [.ref h_t_state, .ref h_t_images, .ref h_t_isKept, .ref h_t_pad, .int t_said, .int t_leastSize, .int t_leastSet, .int t_found, .ref h_t_row, .ref h_t_isUsed, .ref h_t_table, .int t_rank, .long t_determinant])), (h_t_state, .inl (cI, 4, .inl t_state)), (h_t_pad, .inl (cI, 35, .inl t_pad))] H → va_D A [(h_t, .inr (6, [.ref h_t_state, .ref h_t_images, .ref h_t_isKept, .ref h_t_pad, .int t_said, .int t_leastSize, .int t_leastSet, .int t_found, .ref h_t_row, .ref h_t_isUsed, .ref h_t_table, .int t_rank, .long t_determinant])), (h_t_state, .inl (cI, 4, .inl t_state)), (h_t_pad, .inl (cI, 35, .inl t_pad))] → va_S A s.heap H locs → ∀ ls : Array Slot, lv_has ls 6 [(0, .ref h_t), (1, .int v1), (2, .int v2)] → W p l e rm_X6_areFit s m args below meth c H locs 0 0 Q (F0 m 4 ls []) := by
    intro n
    induction n with
    | zero =>
      intro v1 v2 x hL
      exact (on_loop0 hL).elim
    | succ n ih =>
      intro v1 v2 x hL K1 H locs hP hD hS ls hl
      obtain ⟨y, hM, hk⟩ := on_loopE hL
      have hM : B_X6_areFit_4 t_state t_pad v1 v2 = some y := hM
      unfold B_X6_areFit_4 at hM
      refine lv_iload_n hx hb dX6_areFit_4 rfl (lv_at hl 2 rfl) ?_
      refine lv_aload_n hx hb dX6_areFit_5 rfl (lv_at hl 0 rfl) ?_
      obtain ⟨q_1, hq_1, hM⟩ := on_bind hM
      refine on_callV (rest := [.int v2]) (As := []) (st1 := [.int q_1, .int v2]) (C := RX6) (ci := 6) (q0 := 0) (wc := [(h_t, .inr (6, [.ref h_t_state, .ref h_t_images, .ref h_t_isKept, .ref h_t_pad, .int t_said, .int t_leastSize, .int t_leastSet, .int t_found, .ref h_t_row, .ref h_t_isUsed, .ref h_t_table, .int t_rank, .long t_determinant])), (h_t_state, .inl (cI, 4, .inl t_state))]) (wr := [(h_t_pad, .inl (cI, 35, .inl t_pad))]) (wc' := [(h_t, .inr (6, [.ref h_t_state, .ref h_t_images, .ref h_t_isKept, .ref h_t_pad, .int t_said, .int t_leastSize, .int t_leastSet, .int t_found, .ref h_t_row, .ref h_t_isUsed, .ref h_t_table, .int t_rank, .long t_determinant])), (h_t_state, .inl (cI, 4, .inl t_state))]) (wf := [(h_t, .inr (6, [.ref h_t_state, .ref h_t_images, .ref h_t_isKept, .ref h_t_pad, .int t_said, .int t_leastSize, .int t_leastSet, .int t_found, .ref h_t_row, .ref h_t_isUsed, .ref h_t_table, .int t_rank, .long t_determinant])), (h_t_state, .inl (cI, 4, .inl t_state)), (h_t_pad, .inl (cI, 35, .inl t_pad))]) (rt := (some (.int q_1))) ⟨hx, hb, hml, hown, hts⟩ (k_X6_many h_t h_t_state h_t_images h_t_isKept h_t_pad h_t_row h_t_isUsed h_t_table t_said t_leastSize t_leastSet t_found t_rank t_determinant t_state q_1 hq_1) (cwV 0 hts gX6_areFit_X6_many rfl rfl rfl ⟨rfl, hdX6_many⟩ ⟨(Nat.le_of_ble_eq_true rfl), (Nat.le_of_ble_eq_true rfl)⟩) hK hN hP hD hS hA [0, 1] [2] [1, 2, 0] rfl rfl rfl rfl (by decide) rfl rfl rfl rfl rfl rfl hl.1 rfl (Nat.le_of_ble_eq_true rfl) rfl dX6_areFit_6 ⟨Nat.zero_le _, Nat.zero_le _⟩ (fun H locs hP hD hS => ?_)
      refine lv_icmp_ge (tgt := 100) hx hb dX6_areFit_9 (by decide) (fun c_2 => ?_) (fun c_2 => ?_)
      · have hM := on_pos c_2 hM
        have hk := on_nxR hM hk
        subst hk
        exact K1 _ _ hP hD hS ls (lv_sub hl [1] rfl)
      · have hM := on_neg c_2 hM
        refine lv_iload_n hx hb dX6_areFit_12 rfl (lv_at hl 2 rfl) ?_
        refine lv_iconst (v := 1) hx hb dX6_areFit_13 (by decide) ?_
        refine lv_iadd hx hb dX6_areFit_14 ?_
        refine lv_topi (fun v3_3 ev3_3 => ?_)
        have hM := on_letE ev3_3 hM
        refine lv_istore_n (lv' := [(3, .int v3_3), (0, .ref h_t), (1, .int v1), (2, .int v2)]) hx hb dX6_areFit_15 rfl hl (by decide) rfl (fun ls hl => ?_)
        obtain ⟨q_22, hq_22, hM⟩ := on_bind hM
        refine lp_16 v2 on_F v1 v3_3 q_22 hq_22 (fun H locs hP hD hS ls hl => ?_) H locs hP hD hS ls (lv_sub hl [1, 2, 3, 0] rfl)
        obtain ⟨v2_23, ev2_23⟩ : ∃ z : Int32, z = v2 + 1 := ⟨_, rfl⟩
        have hM := on_letE ev2_23 hM
        refine lv_iinc (v := v2_23) (lv' := [(2, .int v2_23), (0, .ref h_t), (1, .int q_22)]) hx hb dX6_areFit_94 hl (k := 2) rfl (by rw [ev2_23]; rfl) (by decide) rfl (fun ls hl => ?_)
        refine lv_goto (tgt := 4) hx hb dX6_areFit_97 (by decide) ?_
        have hk := on_nxL hM hk
        exact ih q_22 v2_23 _ hk K1 _ _ hP hD hS ls (lv_sub hl [1, 2, 0] rfl)
  refine lv_iconst (v := 1) hx hb dX6_areFit_0 (by decide) ?_
  refine lv_istore_n (lv' := [(1, .int (1 : Int32)), (0, .ref h_t)]) hx hb dX6_areFit_1 rfl hl (by decide) rfl (fun ls hl => ?_)
  refine lv_iconst (v := 0) hx hb dX6_areFit_2 (by decide) ?_
  refine lv_istore_n (lv' := [(2, .int (0 : Int32)), (1, .int (1 : Int32)), (0, .ref h_t)]) hx hb dX6_areFit_3 rfl hl (by decide) rfl (fun ls hl => ?_)
  obtain ⟨q_24, hq_24, hM⟩ := on_bind hM
  refine lp_4  on_F (1 : Int32) (0 : Int32) q_24 hq_24 (fun H locs hP hD hS ls hl => ?_) H locs hP hD hS ls (lv_sub hl [2, 1, 0] rfl)
  refine lv_iload_n hx hb dX6_areFit_100 rfl (lv_at hl 0 rfl) ?_
  obtain ⟨g_25, hM⟩ := on_gdE hM
  have hM := Option.some.inj hM
  subst hM
  rw [← hQ]
  exact on_zret hx hb hr hlk hP hD hS g_25 dX6_areFit_101
abbrev rm_X6_netOfPad : Room := { frames := 0, cells := 0, slots := 0, locals := 0 }
set_option maxHeartbeats 4000000 in
set_option maxRecDepth 100000 in
theorem k_X6_netOfPad {l : Launch} {D : va_G} {cI cJ cZ cS cA : ClassId} (h_t : Nat) (h_t_state : Nat) (h_t_images : Nat) (h_t_isKept : Nat) (h_t_pad : Nat) (h_t_row : Nat) (h_t_isUsed : Nat) (h_t_table : Nat) (t_said : Int32) (t_leastSize : Int32) (t_leastSet : Int32) (t_found : Int32) (t_rank : Int32) (t_determinant : Int64) (t_pad : Nat → Int32)  (out : Int32) (hM : M_X6_netOfPad t_said t_pad = some out) : on_Con l yX6_netOfPad wsX6_netOfPad rm_X6_netOfPad [.ref h_t] D (on_T cI cJ cZ cS cA) [(h_t, .inr (6, [.ref h_t_state, .ref h_t_images, .ref h_t_isKept, .ref h_t_pad, .int t_said, .int t_leastSize, .int t_leastSet, .int t_found, .ref h_t_row, .ref h_t_isUsed, .ref h_t_table, .int t_rank, .long t_determinant])), (h_t_pad, .inl (cI, 35, .inl t_pad))] (some (.int out)) [(h_t, .inr (6, [.ref h_t_state, .ref h_t_images, .ref h_t_isKept, .ref h_t_pad, .int t_said, .int t_leastSize, .int t_leastSet, .int t_found, .ref h_t_row, .ref h_t_isUsed, .ref h_t_table, .int t_rank, .long t_determinant])), (h_t_pad, .inl (cI, 35, .inl t_pad))] := by
  unfold M_X6_netOfPad at hM
  refine on_enter (cc := cX6_netOfPad) (nL := 3) (rt := (some .int)) (own := RX6) (by decide +kernel) rfl rfl (Nat.le_of_ble_eq_true rfl) ?_
  intro p e s m below meth c A ls hx hb hml hr hlk hts hown hA hK hN H locs hP hD hS hl
  have hl : lv_has ls 3 [(0, .ref h_t)] := hl
  generalize hQ : MQ below (on_Q D (some (.int out)) [(h_t, .inr (6, [.ref h_t_state, .ref h_t_images, .ref h_t_isKept, .ref h_t_pad, .int t_said, .int t_leastSize, .int t_leastSet, .int t_found, .ref h_t_row, .ref h_t_isUsed, .ref h_t_table, .int t_rank, .long t_determinant])), (h_t_pad, .inl (cI, 35, .inl t_pad))] A) _ s 0 0 A = Q
  generalize hAr : List.toArray ([.ref h_t] : List Value) = args at hts hQ ⊢
  have w1 := hts (.fieldLink RX6 82 "OddNetsModel" "said" "I") (by decide +kernel)
  have w2 : ∀ w ∈ wsX60, w ∈ wsX6_netOfPad := by decide +kernel
  have w3 := hts (.fieldLink RX6 20 "OddNetsModel" "pad" "[I") (by decide +kernel)
  have lp_4 : ∀ (n : Nat) (v1 : Int32) (v2 : Int32) (x : Int32), on_loop (fun (s : Int32 × Int32) => B_X6_netOfPad_4 t_said t_pad s.1 s.2) n (v1, v2) = some x → (∀ (H : Heap) (locs : List Loc), va_P D vwCl [(h_t, .inr (6, [.ref h_t_state, .ref h_t_images, .ref h_t_isKept, .ref h_t_pad, .int t_said, .int t_leastSize, .int t_leastSet, .int t_found, .ref h_t_row, .ref h_t_isUsed, .ref h_t_table, .int t_rank, .long t_determinant])), (h_t_pad, .inl (cI, 35, .inl t_pad))] H → va_D A [(h_t, .inr (6, [.ref h_t_state, .ref h_t_images, .ref h_t_isKept, .ref h_t_pad, .int t_said, .int t_leastSize, .int t_leastSet, .int t_found, .ref h_t_row, .ref h_t_isUsed, .ref h_t_table, .int t_rank, .long t_determinant])), (h_t_pad, .inl (cI, 35, .inl t_pad))] → va_S A s.heap H locs → ∀ ls : Array Slot, lv_has ls 3 [(1, .int x)] → W p l e rm_X6_netOfPad s m args below meth c H locs 0 0 Q (F0 m 32 ls [])) → ∀ (H : Heap) (locs : List Loc), va_P D vwCl [(h_t, .inr (6, [.ref h_t_state, .ref h_t_images, .ref h_t_isKept, .ref h_t_pad, .int t_said, .int t_leastSize, .int t_leastSet, .int t_found, .ref h_t_row, .ref h_t_isUsed, .ref h_t_table, .int t_rank, .long t_determinant])), (h_t_pad, .inl (cI, 35, .inl t_pad))] H → va_D A [(h_t, .inr (6, [.ref h_t_state, .ref h_t_images, .ref h_t_isKept, .ref h_t_pad, .int t_said, .int t_leastSize, .int t_leastSet, .int t_found, .ref h_t_row, .ref h_t_isUsed, .ref h_t_table, .int t_rank, .long t_determinant])), (h_t_pad, .inl (cI, 35, .inl t_pad))] → va_S A s.heap H locs → ∀ ls : Array Slot, lv_has ls 3 [(0, .ref h_t), (1, .int v1), (2, .int v2)] → W p l e rm_X6_netOfPad s m args below meth c H locs 0 0 Q (F0 m 4 ls []) := by
    intro n
    induction n with
    | zero =>
      intro v1 v2 x hL
      exact (on_loop0 hL).elim
    | succ n ih =>
      intro v1 v2 x hL K1 H locs hP hD hS ls hl
      obtain ⟨y, hM, hk⟩ := on_loopE hL
      have hM : B_X6_netOfPad_4 t_said t_pad v1 v2 = some y := hM
      unfold B_X6_netOfPad_4 at hM
      refine lv_iload_n hx hb dX6_netOfPad_4 rfl (lv_at hl 2 rfl) ?_
      refine lv_aload_n hx hb dX6_netOfPad_5 rfl (lv_at hl 0 rfl) ?_
      refine va_get (D := D) (ci := 6) (v := .int t_said) (C := RX6) (T := TX6) (N := 13) hx hb hts w2 hown hK hP 0 rfl rfl 4 (by decide) w1 (fun _ h9 => h9) rfl dX6_netOfPad_6 ?_
      refine lv_icmp_ge (tgt := 32) hx hb dX6_netOfPad_9 (by decide) (fun c_1 => ?_) (fun c_1 => ?_)
      · have hM := on_pos c_1 hM
        have hk := on_nxR hM hk
        subst hk
        exact K1 _ _ hP hD hS ls (lv_sub hl [1] rfl)
      · have hM := on_neg c_1 hM
        refine lv_iconst (v := 2) hx hb dX6_netOfPad_12 (by decide) ?_
        refine lv_iload_n hx hb dX6_netOfPad_13 rfl (lv_at hl 1 rfl) ?_
        refine lv_imul hx hb dX6_netOfPad_14 ?_
        refine lv_aload_n hx hb dX6_netOfPad_15 rfl (lv_at hl 0 rfl) ?_
        refine va_get (D := D) (ci := 6) (v := .ref h_t_pad) (C := RX6) (T := TX6) (N := 13) hx hb hts w2 hown hK hP 0 rfl rfl 3 (by decide) w3 (fun _ h9 => h9) rfl dX6_netOfPad_16 ?_
        refine lv_iload_n hx hb dX6_netOfPad_19 rfl (lv_at hl 2 rfl) ?_
        obtain ⟨g_2, hM⟩ := on_gdE hM
        refine va_iald hx hb hK hP 1 0 rfl rfl (on_ixE g_2) dX6_netOfPad_20 ?_
        refine lv_iadd hx hb dX6_netOfPad_21 ?_
        refine lv_bipush (v := 48) hx hb dX6_netOfPad_22 (by decide) ?_
        refine lv_isub hx hb dX6_netOfPad_24 ?_
        refine lv_topi (fun v1_3 ev1_3 => ?_)
        have hM := on_letE ev1_3 hM
        refine lv_istore_n (lv' := [(1, .int v1_3), (0, .ref h_t), (2, .int v2)]) hx hb dX6_netOfPad_25 rfl hl (by decide) rfl (fun ls hl => ?_)
        obtain ⟨v2_4, ev2_4⟩ : ∃ z : Int32, z = v2 + 1 := ⟨_, rfl⟩
        have hM := on_letE ev2_4 hM
        refine lv_iinc (v := v2_4) (lv' := [(2, .int v2_4), (1, .int v1_3), (0, .ref h_t)]) hx hb dX6_netOfPad_26 hl (k := 2) rfl (by rw [ev2_4]; rfl) (by decide) rfl (fun ls hl => ?_)
        refine lv_goto (tgt := 4) hx hb dX6_netOfPad_29 (by decide) ?_
        have hk := on_nxL hM hk
        exact ih v1_3 v2_4 _ hk K1 _ _ hP hD hS ls (lv_sub hl [2, 1, 0] rfl)
  refine lv_iconst (v := 0) hx hb dX6_netOfPad_0 (by decide) ?_
  refine lv_istore_n (lv' := [(1, .int (0 : Int32)), (0, .ref h_t)]) hx hb dX6_netOfPad_1 rfl hl (by decide) rfl (fun ls hl => ?_)
  refine lv_iconst (v := 0) hx hb dX6_netOfPad_2 (by decide) ?_
  refine lv_istore_n (lv' := [(2, .int (0 : Int32)), (1, .int (0 : Int32)), (0, .ref h_t)]) hx hb dX6_netOfPad_3 rfl hl (by decide) rfl (fun ls hl => ?_)
  obtain ⟨q_5, hq_5, hM⟩ := on_bind hM
  refine lp_4  on_F (0 : Int32) (0 : Int32) q_5 hq_5 (fun H locs hP hD hS ls hl => ?_) H locs hP hD hS ls (lv_sub hl [2, 1, 0] rfl)
  refine lv_iload_n hx hb dX6_netOfPad_32 rfl (lv_at hl 0 rfl) ?_
  have hM := Option.some.inj hM
  subst hM
  rw [← hQ]
  exact on_iret hx hb hr hlk hP hD hS dX6_netOfPad_33
abbrev rm_X6_netOfTriples : Room := { frames := 3, cells := 0, slots := 0, locals := 70 }
set_option maxHeartbeats 4000000 in
set_option maxRecDepth 100000 in
theorem k_X6_netOfTriples {l : Launch} {D : va_G} {cI cJ cZ cS cA : ClassId} (h_t : Nat) (h_t_state : Nat) (h_t_images : Nat) (h_t_isKept : Nat) (h_t_pad : Nat) (h_t_row : Nat) (h_t_isUsed : Nat) (h_t_table : Nat) (t_said : Int32) (t_leastSize : Int32) (t_leastSet : Int32) (t_found : Int32) (t_rank : Int32) (t_determinant : Int64) (t_state : Nat → Int32) (t_pad : Nat → Int32)  (out : Int32) (hM : M_X6_netOfTriples t_state t_pad = some out) : on_Con l yX6_netOfTriples wsX6_netOfTriples rm_X6_netOfTriples [.ref h_t] D (on_T cI cJ cZ cS cA) [(h_t, .inr (6, [.ref h_t_state, .ref h_t_images, .ref h_t_isKept, .ref h_t_pad, .int t_said, .int t_leastSize, .int t_leastSet, .int t_found, .ref h_t_row, .ref h_t_isUsed, .ref h_t_table, .int t_rank, .long t_determinant])), (h_t_state, .inl (cI, 4, .inl t_state)), (h_t_pad, .inl (cI, 35, .inl t_pad))] (some (.int out)) [(h_t, .inr (6, [.ref h_t_state, .ref h_t_images, .ref h_t_isKept, .ref h_t_pad, .int t_said, .int t_leastSize, .int t_leastSet, .int t_found, .ref h_t_row, .ref h_t_isUsed, .ref h_t_table, .int t_rank, .long t_determinant])), (h_t_state, .inl (cI, 4, .inl t_state)), (h_t_pad, .inl (cI, 35, .inl t_pad))] := by
  unfold M_X6_netOfTriples at hM
  refine on_enter (cc := cX6_netOfTriples) (nL := 4) (rt := (some .int)) (own := RX6) (by decide +kernel) rfl rfl (Nat.le_of_ble_eq_true rfl) ?_
  intro p e s m below meth c A ls hx hb hml hr hlk hts hown hA hK hN H locs hP hD hS hl
  have hl : lv_has ls 4 [(0, .ref h_t)] := hl
  generalize hQ : MQ below (on_Q D (some (.int out)) [(h_t, .inr (6, [.ref h_t_state, .ref h_t_images, .ref h_t_isKept, .ref h_t_pad, .int t_said, .int t_leastSize, .int t_leastSet, .int t_found, .ref h_t_row, .ref h_t_isUsed, .ref h_t_table, .int t_rank, .long t_determinant])), (h_t_state, .inl (cI, 4, .inl t_state)), (h_t_pad, .inl (cI, 35, .inl t_pad))] A) _ s 0 0 A = Q
  generalize hAr : List.toArray ([.ref h_t] : List Value) = args at hts hQ ⊢
  have lp_16 : ∀ (v2 : Int32), ∀ (n : Nat) (v1 : Int32) (v3 : Int32) (x : Int32), on_loop (fun (s : Int32 × Int32) => B_X6_netOfTriples_16 v2 t_state t_pad s.1 s.2) n (v1, v3) = some x → (∀ (H : Heap) (locs : List Loc), va_P D vwCl [(h_t, .inr (6, [.ref h_t_state, .ref h_t_images, .ref h_t_isKept, .ref h_t_pad, .int t_said, .int t_leastSize, .int t_leastSet, .int t_found, .ref h_t_row, .ref h_t_isUsed, .ref h_t_table, .int t_rank, .long t_determinant])), (h_t_state, .inl (cI, 4, .inl t_state)), (h_t_pad, .inl (cI, 35, .inl t_pad))] H → va_D A [(h_t, .inr (6, [.ref h_t_state, .ref h_t_images, .ref h_t_isKept, .ref h_t_pad, .int t_said, .int t_leastSize, .int t_leastSet, .int t_found, .ref h_t_row, .ref h_t_isUsed, .ref h_t_table, .int t_rank, .long t_determinant])), (h_t_state, .inl (cI, 4, .inl t_state)), (h_t_pad, .inl (cI, 35, .inl t_pad))] → va_S A s.heap H locs → ∀ ls : Array Slot, lv_has ls 4 [(0, .ref h_t), (1, .int x), (2, .int v2)] → W p l e rm_X6_netOfTriples s m args below meth c H locs 0 0 Q (F0 m 57 ls [])) → ∀ (H : Heap) (locs : List Loc), va_P D vwCl [(h_t, .inr (6, [.ref h_t_state, .ref h_t_images, .ref h_t_isKept, .ref h_t_pad, .int t_said, .int t_leastSize, .int t_leastSet, .int t_found, .ref h_t_row, .ref h_t_isUsed, .ref h_t_table, .int t_rank, .long t_determinant])), (h_t_state, .inl (cI, 4, .inl t_state)), (h_t_pad, .inl (cI, 35, .inl t_pad))] H → va_D A [(h_t, .inr (6, [.ref h_t_state, .ref h_t_images, .ref h_t_isKept, .ref h_t_pad, .int t_said, .int t_leastSize, .int t_leastSet, .int t_found, .ref h_t_row, .ref h_t_isUsed, .ref h_t_table, .int t_rank, .long t_determinant])), (h_t_state, .inl (cI, 4, .inl t_state)), (h_t_pad, .inl (cI, 35, .inl t_pad))] → va_S A s.heap H locs → ∀ ls : Array Slot, lv_has ls 4 [(0, .ref h_t), (1, .int v1), (2, .int v2), (3, .int v3)] → W p l e rm_X6_netOfTriples s m args below meth c H locs 0 0 Q (F0 m 16 ls []) := by
    intro v2
    intro n
    induction n with
    | zero =>
      intro v1 v3 x hL
      exact (on_loop0 hL).elim
    | succ n ih =>
      intro v1 v3 x hL K1 H locs hP hD hS ls hl
      obtain ⟨y, hM, hk⟩ := on_loopE hL
      have hM : B_X6_netOfTriples_16 v2 t_state t_pad v1 v3 = some y := hM
      unfold B_X6_netOfTriples_16 at hM
      refine lv_iload_n hx hb dX6_netOfTriples_16 rfl (lv_at hl 3 rfl) ?_
      refine lv_aload_n hx hb dX6_netOfTriples_17 rfl (lv_at hl 0 rfl) ?_
      obtain ⟨q_4, hq_4, hM⟩ := on_bind hM
      refine on_callV (rest := [.int v3]) (As := []) (st1 := [.int q_4, .int v3]) (C := RX6) (ci := 6) (q0 := 0) (wc := [(h_t, .inr (6, [.ref h_t_state, .ref h_t_images, .ref h_t_isKept, .ref h_t_pad, .int t_said, .int t_leastSize, .int t_leastSet, .int t_found, .ref h_t_row, .ref h_t_isUsed, .ref h_t_table, .int t_rank, .long t_determinant])), (h_t_state, .inl (cI, 4, .inl t_state))]) (wr := [(h_t_pad, .inl (cI, 35, .inl t_pad))]) (wc' := [(h_t, .inr (6, [.ref h_t_state, .ref h_t_images, .ref h_t_isKept, .ref h_t_pad, .int t_said, .int t_leastSize, .int t_leastSet, .int t_found, .ref h_t_row, .ref h_t_isUsed, .ref h_t_table, .int t_rank, .long t_determinant])), (h_t_state, .inl (cI, 4, .inl t_state))]) (wf := [(h_t, .inr (6, [.ref h_t_state, .ref h_t_images, .ref h_t_isKept, .ref h_t_pad, .int t_said, .int t_leastSize, .int t_leastSet, .int t_found, .ref h_t_row, .ref h_t_isUsed, .ref h_t_table, .int t_rank, .long t_determinant])), (h_t_state, .inl (cI, 4, .inl t_state)), (h_t_pad, .inl (cI, 35, .inl t_pad))]) (rt := (some (.int q_4))) ⟨hx, hb, hml, hown, hts⟩ (k_X6_many h_t h_t_state h_t_images h_t_isKept h_t_pad h_t_row h_t_isUsed h_t_table t_said t_leastSize t_leastSet t_found t_rank t_determinant t_state q_4 hq_4) (cwV 0 hts gX6_netOfTriples_X6_many rfl rfl rfl ⟨rfl, hdX6_many⟩ ⟨(Nat.le_of_ble_eq_true rfl), (Nat.le_of_ble_eq_true rfl)⟩) hK hN hP hD hS hA [0, 1] [2] [1, 2, 0] rfl rfl rfl rfl (by decide) rfl rfl rfl rfl rfl rfl hl.1 rfl (Nat.le_of_ble_eq_true rfl) rfl dX6_netOfTriples_18 ⟨Nat.zero_le _, Nat.zero_le _⟩ (fun H locs hP hD hS => ?_)
      refine lv_icmp_ge (tgt := 57) hx hb dX6_netOfTriples_21 (by decide) (fun c_5 => ?_) (fun c_5 => ?_)
      · have hM := on_pos c_5 hM
        have hk := on_nxR hM hk
        subst hk
        exact K1 _ _ hP hD hS ls (lv_sub hl [0, 1, 2] rfl)
      · have hM := on_neg c_5 hM
        refine lv_iload_n hx hb dX6_netOfTriples_24 rfl (lv_at hl 1 rfl) ?_
        refine lv_aload_n hx hb dX6_netOfTriples_25 rfl (lv_at hl 0 rfl) ?_
        refine lv_iconst (v := 0) hx hb dX6_netOfTriples_26 (by decide) ?_
        refine lv_iload_n hx hb dX6_netOfTriples_27 rfl (lv_at hl 2 rfl) ?_
        refine lv_iload_n hx hb dX6_netOfTriples_28 rfl (lv_at hl 3 rfl) ?_
        obtain ⟨q_6, hq_6, hM⟩ := on_bind hM
        refine on_callV (rest := [.int v1]) (As := [.int (0 : Int32), .int v2, .int v3]) (st1 := [.int q_6, .int v1]) (C := RX6) (ci := 6) (q0 := 0) (wc := [(h_t, .inr (6, [.ref h_t_state, .ref h_t_images, .ref h_t_isKept, .ref h_t_pad, .int t_said, .int t_leastSize, .int t_leastSet, .int t_found, .ref h_t_row, .ref h_t_isUsed, .ref h_t_table, .int t_rank, .long t_determinant])), (h_t_state, .inl (cI, 4, .inl t_state)), (h_t_pad, .inl (cI, 35, .inl t_pad))]) (wr := []) (wc' := [(h_t, .inr (6, [.ref h_t_state, .ref h_t_images, .ref h_t_isKept, .ref h_t_pad, .int t_said, .int t_leastSize, .int t_leastSet, .int t_found, .ref h_t_row, .ref h_t_isUsed, .ref h_t_table, .int t_rank, .long t_determinant])), (h_t_state, .inl (cI, 4, .inl t_state)), (h_t_pad, .inl (cI, 35, .inl t_pad))]) (wf := [(h_t, .inr (6, [.ref h_t_state, .ref h_t_images, .ref h_t_isKept, .ref h_t_pad, .int t_said, .int t_leastSize, .int t_leastSet, .int t_found, .ref h_t_row, .ref h_t_isUsed, .ref h_t_table, .int t_rank, .long t_determinant])), (h_t_state, .inl (cI, 4, .inl t_state)), (h_t_pad, .inl (cI, 35, .inl t_pad))]) (rt := (some (.int q_6))) ⟨hx, hb, hml, hown, hts⟩ (k_X6_told h_t h_t_state h_t_images h_t_isKept h_t_pad h_t_row h_t_isUsed h_t_table t_said t_leastSize t_leastSet t_found t_rank t_determinant t_state t_pad (0 : Int32) v2 v3 q_6 hq_6) (cwV 3 hts gX6_netOfTriples_X6_told rfl rfl rfl ⟨rfl, hdX6_told⟩ ⟨(Nat.le_of_ble_eq_true rfl), (Nat.le_of_ble_eq_true rfl)⟩) hK hN hP hD hS hA [0, 1, 2] [] [0, 1, 2] rfl rfl rfl rfl (by decide) rfl rfl rfl rfl rfl rfl hl.1 rfl (Nat.le_of_ble_eq_true rfl) rfl dX6_netOfTriples_29 ⟨Nat.zero_le _, Nat.zero_le _⟩ (fun H locs hP hD hS => ?_)
        refine lv_iconst (v := 1) hx hb dX6_netOfTriples_32 (by decide) ?_
        refine lv_icmp_ne (tgt := 48) hx hb dX6_netOfTriples_33 (by decide) (fun c_7 => ?_) (fun c_7 => ?_)
        · have hM := on_neg c_7 hM
          refine lv_iconst (v := 0) hx hb dX6_netOfTriples_48 (by decide) ?_
          refine lv_ior hx hb dX6_netOfTriples_49 ?_
          refine lv_topi (fun v1_8 ev1_8 => ?_)
          have hM := on_letE ev1_8 hM
          refine lv_istore_n (lv' := [(1, .int v1_8), (0, .ref h_t), (2, .int v2), (3, .int v3)]) hx hb dX6_netOfTriples_50 rfl hl (by decide) rfl (fun ls hl => ?_)
          obtain ⟨v3_9, ev3_9⟩ : ∃ z : Int32, z = v3 + 1 := ⟨_, rfl⟩
          have hM := on_letE ev3_9 hM
          refine lv_iinc (v := v3_9) (lv' := [(3, .int v3_9), (1, .int v1_8), (0, .ref h_t), (2, .int v2)]) hx hb dX6_netOfTriples_51 hl (k := 3) rfl (by rw [ev3_9]; rfl) (by decide) rfl (fun ls hl => ?_)
          refine lv_goto (tgt := 16) hx hb dX6_netOfTriples_54 (by decide) ?_
          have hk := on_nxL hM hk
          exact ih v1_8 v3_9 _ hk K1 _ _ hP hD hS ls (lv_sub hl [2, 1, 3, 0] rfl)
        · have hM := on_pos c_7 hM
          refine lv_aload_n hx hb dX6_netOfTriples_36 rfl (lv_at hl 0 rfl) ?_
          obtain ⟨q_10, hq_10, hM⟩ := on_bind hM
          refine on_callV (rest := [.int v1]) (As := []) (st1 := [.int q_10, .int v1]) (C := RX6) (ci := 6) (q0 := 0) (wc := [(h_t, .inr (6, [.ref h_t_state, .ref h_t_images, .ref h_t_isKept, .ref h_t_pad, .int t_said, .int t_leastSize, .int t_leastSet, .int t_found, .ref h_t_row, .ref h_t_isUsed, .ref h_t_table, .int t_rank, .long t_determinant])), (h_t_state, .inl (cI, 4, .inl t_state))]) (wr := [(h_t_pad, .inl (cI, 35, .inl t_pad))]) (wc' := [(h_t, .inr (6, [.ref h_t_state, .ref h_t_images, .ref h_t_isKept, .ref h_t_pad, .int t_said, .int t_leastSize, .int t_leastSet, .int t_found, .ref h_t_row, .ref h_t_isUsed, .ref h_t_table, .int t_rank, .long t_determinant])), (h_t_state, .inl (cI, 4, .inl t_state))]) (wf := [(h_t, .inr (6, [.ref h_t_state, .ref h_t_images, .ref h_t_isKept, .ref h_t_pad, .int t_said, .int t_leastSize, .int t_leastSet, .int t_found, .ref h_t_row, .ref h_t_isUsed, .ref h_t_table, .int t_rank, .long t_determinant])), (h_t_state, .inl (cI, 4, .inl t_state)), (h_t_pad, .inl (cI, 35, .inl t_pad))]) (rt := (some (.int q_10))) ⟨hx, hb, hml, hown, hts⟩ (k_X6_many h_t h_t_state h_t_images h_t_isKept h_t_pad h_t_row h_t_isUsed h_t_table t_said t_leastSize t_leastSet t_found t_rank t_determinant t_state q_10 hq_10) (cwV 0 hts gX6_netOfTriples_X6_many rfl rfl rfl ⟨rfl, hdX6_many⟩ ⟨(Nat.le_of_ble_eq_true rfl), (Nat.le_of_ble_eq_true rfl)⟩) hK hN hP hD hS hA [0, 1] [2] [1, 2, 0] rfl rfl rfl rfl (by decide) rfl rfl rfl rfl rfl rfl hl.1 rfl (Nat.le_of_ble_eq_true rfl) rfl dX6_netOfTriples_37 ⟨Nat.zero_le _, Nat.zero_le _⟩ (fun H locs hP hD hS => ?_)
          refine lv_iload_n hx hb dX6_netOfTriples_40 rfl (lv_at hl 2 rfl) ?_
          refine lv_iload_n hx hb dX6_netOfTriples_41 rfl (lv_at hl 3 rfl) ?_
          obtain ⟨q_11, hq_11, hM⟩ := on_bind hM
          refine on_callS0 (rest := [.int v1]) (As := [.int q_10, .int v2, .int v3]) (st1 := [.int q_11, .int v1]) ⟨hx, hb, hml, hown, hts⟩ (k_X6_valueOf q_10 v2 v3 q_11 hq_11) (va_cwS 3 hts gX6_netOfTriples_X6_valueOf rfl rfl rfl hdX6_valueOf ⟨(Nat.le_of_ble_eq_true rfl), (Nat.le_of_ble_eq_true rfl)⟩) hK hN hP hD hS hA rfl hl.1 rfl (Nat.le_of_ble_eq_true rfl) rfl dX6_netOfTriples_42 ⟨Nat.zero_le _, Nat.zero_le _⟩ (fun H locs hP hS => ?_)
          refine lv_goto (tgt := 49) hx hb dX6_netOfTriples_45 (by decide) ?_
          refine lv_ior hx hb dX6_netOfTriples_49 ?_
          refine lv_topi (fun v1_12 ev1_12 => ?_)
          have hM := on_letE ev1_12 hM
          refine lv_istore_n (lv' := [(1, .int v1_12), (0, .ref h_t), (2, .int v2), (3, .int v3)]) hx hb dX6_netOfTriples_50 rfl hl (by decide) rfl (fun ls hl => ?_)
          obtain ⟨v3_13, ev3_13⟩ : ∃ z : Int32, z = v3 + 1 := ⟨_, rfl⟩
          have hM := on_letE ev3_13 hM
          refine lv_iinc (v := v3_13) (lv' := [(3, .int v3_13), (1, .int v1_12), (0, .ref h_t), (2, .int v2)]) hx hb dX6_netOfTriples_51 hl (k := 3) rfl (by rw [ev3_13]; rfl) (by decide) rfl (fun ls hl => ?_)
          refine lv_goto (tgt := 16) hx hb dX6_netOfTriples_54 (by decide) ?_
          have hk := on_nxL hM hk
          exact ih v1_12 v3_13 _ hk K1 _ _ hP hD hS ls (lv_sub hl [2, 1, 3, 0] rfl)
  have lp_4 : ∀ (n : Nat) (v1 : Int32) (v2 : Int32) (x : Int32), on_loop (fun (s : Int32 × Int32) => B_X6_netOfTriples_4 t_state t_pad s.1 s.2) n (v1, v2) = some x → (∀ (H : Heap) (locs : List Loc), va_P D vwCl [(h_t, .inr (6, [.ref h_t_state, .ref h_t_images, .ref h_t_isKept, .ref h_t_pad, .int t_said, .int t_leastSize, .int t_leastSet, .int t_found, .ref h_t_row, .ref h_t_isUsed, .ref h_t_table, .int t_rank, .long t_determinant])), (h_t_state, .inl (cI, 4, .inl t_state)), (h_t_pad, .inl (cI, 35, .inl t_pad))] H → va_D A [(h_t, .inr (6, [.ref h_t_state, .ref h_t_images, .ref h_t_isKept, .ref h_t_pad, .int t_said, .int t_leastSize, .int t_leastSet, .int t_found, .ref h_t_row, .ref h_t_isUsed, .ref h_t_table, .int t_rank, .long t_determinant])), (h_t_state, .inl (cI, 4, .inl t_state)), (h_t_pad, .inl (cI, 35, .inl t_pad))] → va_S A s.heap H locs → ∀ ls : Array Slot, lv_has ls 4 [(1, .int x)] → W p l e rm_X6_netOfTriples s m args below meth c H locs 0 0 Q (F0 m 63 ls [])) → ∀ (H : Heap) (locs : List Loc), va_P D vwCl [(h_t, .inr (6, [.ref h_t_state, .ref h_t_images, .ref h_t_isKept, .ref h_t_pad, .int t_said, .int t_leastSize, .int t_leastSet, .int t_found, .ref h_t_row, .ref h_t_isUsed, .ref h_t_table, .int t_rank, .long t_determinant])), (h_t_state, .inl (cI, 4, .inl t_state)), (h_t_pad, .inl (cI, 35, .inl t_pad))] H → va_D A [(h_t, .inr (6, [.ref h_t_state, .ref h_t_images, .ref h_t_isKept, .ref h_t_pad, .int t_said, .int t_leastSize, .int t_leastSet, .int t_found, .ref h_t_row, .ref h_t_isUsed, .ref h_t_table, .int t_rank, .long t_determinant])), (h_t_state, .inl (cI, 4, .inl t_state)), (h_t_pad, .inl (cI, 35, .inl t_pad))] → va_S A s.heap H locs → ∀ ls : Array Slot, lv_has ls 4 [(0, .ref h_t), (1, .int v1), (2, .int v2)] → W p l e rm_X6_netOfTriples s m args below meth c H locs 0 0 Q (F0 m 4 ls []) := by
    intro n
    induction n with
    | zero =>
      intro v1 v2 x hL
      exact (on_loop0 hL).elim
    | succ n ih =>
      intro v1 v2 x hL K1 H locs hP hD hS ls hl
      obtain ⟨y, hM, hk⟩ := on_loopE hL
      have hM : B_X6_netOfTriples_4 t_state t_pad v1 v2 = some y := hM
      unfold B_X6_netOfTriples_4 at hM
      refine lv_iload_n hx hb dX6_netOfTriples_4 rfl (lv_at hl 2 rfl) ?_
      refine lv_aload_n hx hb dX6_netOfTriples_5 rfl (lv_at hl 0 rfl) ?_
      obtain ⟨q_1, hq_1, hM⟩ := on_bind hM
      refine on_callV (rest := [.int v2]) (As := []) (st1 := [.int q_1, .int v2]) (C := RX6) (ci := 6) (q0 := 0) (wc := [(h_t, .inr (6, [.ref h_t_state, .ref h_t_images, .ref h_t_isKept, .ref h_t_pad, .int t_said, .int t_leastSize, .int t_leastSet, .int t_found, .ref h_t_row, .ref h_t_isUsed, .ref h_t_table, .int t_rank, .long t_determinant])), (h_t_state, .inl (cI, 4, .inl t_state))]) (wr := [(h_t_pad, .inl (cI, 35, .inl t_pad))]) (wc' := [(h_t, .inr (6, [.ref h_t_state, .ref h_t_images, .ref h_t_isKept, .ref h_t_pad, .int t_said, .int t_leastSize, .int t_leastSet, .int t_found, .ref h_t_row, .ref h_t_isUsed, .ref h_t_table, .int t_rank, .long t_determinant])), (h_t_state, .inl (cI, 4, .inl t_state))]) (wf := [(h_t, .inr (6, [.ref h_t_state, .ref h_t_images, .ref h_t_isKept, .ref h_t_pad, .int t_said, .int t_leastSize, .int t_leastSet, .int t_found, .ref h_t_row, .ref h_t_isUsed, .ref h_t_table, .int t_rank, .long t_determinant])), (h_t_state, .inl (cI, 4, .inl t_state)), (h_t_pad, .inl (cI, 35, .inl t_pad))]) (rt := (some (.int q_1))) ⟨hx, hb, hml, hown, hts⟩ (k_X6_many h_t h_t_state h_t_images h_t_isKept h_t_pad h_t_row h_t_isUsed h_t_table t_said t_leastSize t_leastSet t_found t_rank t_determinant t_state q_1 hq_1) (cwV 0 hts gX6_netOfTriples_X6_many rfl rfl rfl ⟨rfl, hdX6_many⟩ ⟨(Nat.le_of_ble_eq_true rfl), (Nat.le_of_ble_eq_true rfl)⟩) hK hN hP hD hS hA [0, 1] [2] [1, 2, 0] rfl rfl rfl rfl (by decide) rfl rfl rfl rfl rfl rfl hl.1 rfl (Nat.le_of_ble_eq_true rfl) rfl dX6_netOfTriples_6 ⟨Nat.zero_le _, Nat.zero_le _⟩ (fun H locs hP hD hS => ?_)
      refine lv_icmp_ge (tgt := 63) hx hb dX6_netOfTriples_9 (by decide) (fun c_2 => ?_) (fun c_2 => ?_)
      · have hM := on_pos c_2 hM
        have hk := on_nxR hM hk
        subst hk
        exact K1 _ _ hP hD hS ls (lv_sub hl [1] rfl)
      · have hM := on_neg c_2 hM
        refine lv_iload_n hx hb dX6_netOfTriples_12 rfl (lv_at hl 2 rfl) ?_
        refine lv_iconst (v := 1) hx hb dX6_netOfTriples_13 (by decide) ?_
        refine lv_iadd hx hb dX6_netOfTriples_14 ?_
        refine lv_topi (fun v3_3 ev3_3 => ?_)
        have hM := on_letE ev3_3 hM
        refine lv_istore_n (lv' := [(3, .int v3_3), (0, .ref h_t), (1, .int v1), (2, .int v2)]) hx hb dX6_netOfTriples_15 rfl hl (by decide) rfl (fun ls hl => ?_)
        obtain ⟨q_14, hq_14, hM⟩ := on_bind hM
        refine lp_16 v2 on_F v1 v3_3 q_14 hq_14 (fun H locs hP hD hS ls hl => ?_) H locs hP hD hS ls (lv_sub hl [1, 2, 3, 0] rfl)
        obtain ⟨v2_15, ev2_15⟩ : ∃ z : Int32, z = v2 + 1 := ⟨_, rfl⟩
        have hM := on_letE ev2_15 hM
        refine lv_iinc (v := v2_15) (lv' := [(2, .int v2_15), (0, .ref h_t), (1, .int q_14)]) hx hb dX6_netOfTriples_57 hl (k := 2) rfl (by rw [ev2_15]; rfl) (by decide) rfl (fun ls hl => ?_)
        refine lv_goto (tgt := 4) hx hb dX6_netOfTriples_60 (by decide) ?_
        have hk := on_nxL hM hk
        exact ih q_14 v2_15 _ hk K1 _ _ hP hD hS ls (lv_sub hl [1, 2, 0] rfl)
  refine lv_iconst (v := 0) hx hb dX6_netOfTriples_0 (by decide) ?_
  refine lv_istore_n (lv' := [(1, .int (0 : Int32)), (0, .ref h_t)]) hx hb dX6_netOfTriples_1 rfl hl (by decide) rfl (fun ls hl => ?_)
  refine lv_iconst (v := 1) hx hb dX6_netOfTriples_2 (by decide) ?_
  refine lv_istore_n (lv' := [(2, .int (1 : Int32)), (1, .int (0 : Int32)), (0, .ref h_t)]) hx hb dX6_netOfTriples_3 rfl hl (by decide) rfl (fun ls hl => ?_)
  obtain ⟨q_16, hq_16, hM⟩ := on_bind hM
  refine lp_4  on_F (0 : Int32) (1 : Int32) q_16 hq_16 (fun H locs hP hD hS ls hl => ?_) H locs hP hD hS ls (lv_sub hl [2, 1, 0] rfl)
  refine lv_iload_n hx hb dX6_netOfTriples_63 rfl (lv_at hl 0 rfl) ?_
  have hM := Option.some.inj hM
  subst hM
  rw [← hQ]
  exact on_iret hx hb hr hlk hP hD hS dX6_netOfTriples_64
abbrev rm_X6_read : Room := { frames := 5, cells := 0, slots := 0, locals := 119 }
set_option maxHeartbeats 4000000 in
set_option maxRecDepth 100000 in
theorem k_X6_read {l : Launch} {D : va_G} {cI cJ cZ cS cA : ClassId} (h_t : Nat) (h_t_state : Nat) (h_t_images : Nat) (h_t_isKept : Nat) (h_t_pad : Nat) (h_t_row : Nat) (h_t_isUsed : Nat) (h_t_table : Nat) (t_said : Int32) (t_leastSize : Int32) (t_leastSet : Int32) (t_found : Int32) (t_rank : Int32) (t_determinant : Int64) (t_state : Nat → Int32) (t_pad : Nat → Int32) (v1 : Int32) (v2 : Int32) (out : Int32 × Int32 × (Nat → Int32)) (hM : M_X6_read v1 v2 t_said t_state t_pad = some out) : on_Con l yX6_read wsX6_read rm_X6_read [.ref h_t, .int v1, .int v2] D (on_T cI cJ cZ cS cA) [(h_t, .inr (6, [.ref h_t_state, .ref h_t_images, .ref h_t_isKept, .ref h_t_pad, .int t_said, .int t_leastSize, .int t_leastSet, .int t_found, .ref h_t_row, .ref h_t_isUsed, .ref h_t_table, .int t_rank, .long t_determinant])), (h_t_state, .inl (cI, 4, .inl t_state)), (h_t_pad, .inl (cI, 35, .inl t_pad))] (some (.int out.1)) [(h_t, .inr (6, [.ref h_t_state, .ref h_t_images, .ref h_t_isKept, .ref h_t_pad, .int out.2.1, .int t_leastSize, .int t_leastSet, .int t_found, .ref h_t_row, .ref h_t_isUsed, .ref h_t_table, .int t_rank, .long t_determinant])), (h_t_state, .inl (cI, 4, .inl out.2.2)), (h_t_pad, .inl (cI, 35, .inl t_pad))] := by
  unfold M_X6_read at hM
  refine on_enter (cc := cX6_read) (nL := 4) (rt := (some .int)) (own := RX6) (by decide +kernel) rfl rfl (Nat.le_of_ble_eq_true rfl) ?_
  intro p e s m below meth c A ls hx hb hml hr hlk hts hown hA hK hN H locs hP hD hS hl
  have hl : lv_has ls 4 [(0, .ref h_t), (1, .int v1), (2, .int v2)] := hl
  generalize hQ : MQ below (on_Q D (some (.int out.1)) [(h_t, .inr (6, [.ref h_t_state, .ref h_t_images, .ref h_t_isKept, .ref h_t_pad, .int out.2.1, .int t_leastSize, .int t_leastSet, .int t_found, .ref h_t_row, .ref h_t_isUsed, .ref h_t_table, .int t_rank, .long t_determinant])), (h_t_state, .inl (cI, 4, .inl out.2.2)), (h_t_pad, .inl (cI, 35, .inl t_pad))] A) _ s 0 0 A = Q
  generalize hAr : List.toArray ([.ref h_t, .int v1, .int v2] : List Value) = args at hts hQ ⊢
  have w1 := hts (.fieldLink RX6 82 "OddNetsModel" "said" "I") (by decide +kernel)
  have w2 : ∀ w ∈ wsX60, w ∈ wsX6_read := by decide +kernel
  refine lv_iload_n hx hb dX6_read_0 rfl (lv_at hl 1 rfl) ?_
  obtain ⟨q_1, hq_1, hM⟩ := on_bind hM
  refine on_callS0 (rest := []) (As := [.int v1]) (st1 := [.int q_1]) ⟨hx, hb, hml, hown, hts⟩ (k_X6_isSlot v1 q_1 hq_1) (va_cwS 1 hts gX6_read_X6_isSlot rfl rfl rfl hdX6_isSlot ⟨(Nat.le_of_ble_eq_true rfl), (Nat.le_of_ble_eq_true rfl)⟩) hK hN hP hD hS hA rfl hl.1 rfl (Nat.le_of_ble_eq_true rfl) rfl dX6_read_1 ⟨Nat.zero_le _, Nat.zero_le _⟩ (fun H locs hP hS => ?_)
  refine lv_if_ne (tgt := 9) hx hb dX6_read_4 (by decide) (fun c_2 => ?_) (fun c_2 => ?_)
  · have hM := on_neg c_2 hM
    refine lv_iload_n hx hb dX6_read_9 rfl (lv_at hl 2 rfl) ?_
    refine lv_iconst (v := 0) hx hb dX6_read_10 (by decide) ?_
    refine lv_iconst (v := 1) hx hb dX6_read_11 (by decide) ?_
    obtain ⟨q_3, hq_3, hM⟩ := on_bind hM
    refine on_callS0 (rest := []) (As := [.int v2, .int (0 : Int32), .int (1 : Int32)]) (st1 := [.int q_3]) ⟨hx, hb, hml, hown, hts⟩ (k_X6_in v2 (0 : Int32) (1 : Int32) q_3 hq_3) (va_cwS 3 hts gX6_read_X6_in rfl rfl rfl hdX6_in ⟨(Nat.le_of_ble_eq_true rfl), (Nat.le_of_ble_eq_true rfl)⟩) hK hN hP hD hS hA rfl hl.1 rfl (Nat.le_of_ble_eq_true rfl) rfl dX6_read_12 ⟨Nat.zero_le _, Nat.zero_le _⟩ (fun H locs hP hS => ?_)
    refine lv_if_ne (tgt := 21) hx hb dX6_read_15 (by decide) (fun c_4 => ?_) (fun c_4 => ?_)
    · have hM := on_neg c_4 hM
      refine lv_aload_n hx hb dX6_read_21 rfl (lv_at hl 0 rfl) ?_
      refine lv_iload_n hx hb dX6_read_22 rfl (lv_at hl 2 rfl) ?_
      obtain ⟨q_5, hq_5, hM⟩ := on_bind hM
      refine on_callV (rest := []) (As := [.int v2]) (st1 := [.int q_5]) (C := RX6) (ci := 6) (q0 := 0) (wc := [(h_t, .inr (6, [.ref h_t_state, .ref h_t_images, .ref h_t_isKept, .ref h_t_pad, .int t_said, .int t_leastSize, .int t_leastSet, .int t_found, .ref h_t_row, .ref h_t_isUsed, .ref h_t_table, .int t_rank, .long t_determinant])), (h_t_state, .inl (cI, 4, .inl t_state)), (h_t_pad, .inl (cI, 35, .inl t_pad))]) (wr := []) (wc' := [(h_t, .inr (6, [.ref h_t_state, .ref h_t_images, .ref h_t_isKept, .ref h_t_pad, .int t_said, .int t_leastSize, .int t_leastSet, .int t_found, .ref h_t_row, .ref h_t_isUsed, .ref h_t_table, .int t_rank, .long t_determinant])), (h_t_state, .inl (cI, 4, .inl t_state)), (h_t_pad, .inl (cI, 35, .inl t_pad))]) (wf := [(h_t, .inr (6, [.ref h_t_state, .ref h_t_images, .ref h_t_isKept, .ref h_t_pad, .int t_said, .int t_leastSize, .int t_leastSet, .int t_found, .ref h_t_row, .ref h_t_isUsed, .ref h_t_table, .int t_rank, .long t_determinant])), (h_t_state, .inl (cI, 4, .inl t_state)), (h_t_pad, .inl (cI, 35, .inl t_pad))]) (rt := (some (.int q_5))) ⟨hx, hb, hml, hown, hts⟩ (k_X6_faultAs h_t h_t_state h_t_images h_t_isKept h_t_pad h_t_row h_t_isUsed h_t_table t_said t_leastSize t_leastSet t_found t_rank t_determinant t_state t_pad v2 q_5 hq_5) (cwV 1 hts gX6_read_X6_faultAs rfl rfl rfl ⟨rfl, hdX6_faultAs⟩ ⟨(Nat.le_of_ble_eq_true rfl), (Nat.le_of_ble_eq_true rfl)⟩) hK hN hP hD hS hA [0, 1, 2] [] [0, 1, 2] rfl rfl rfl rfl (by decide) rfl rfl rfl rfl rfl rfl hl.1 rfl (Nat.le_of_ble_eq_true rfl) rfl dX6_read_23 ⟨Nat.zero_le _, Nat.zero_le _⟩ (fun H locs hP hD hS => ?_)
      refine lv_if_lt (tgt := 32) hx hb dX6_read_26 (by decide) (fun c_6 => ?_) (fun c_6 => ?_)
      · have hM := on_pos c_6 hM
        refine lv_iload_n hx hb dX6_read_32 rfl (lv_at hl 2 rfl) ?_
        refine lv_iconst (v := 1) hx hb dX6_read_33 (by decide) ?_
        refine lv_icmp_ne (tgt := 47) hx hb dX6_read_34 (by decide) (fun c_7 => ?_) (fun c_7 => ?_)
        · have hM := on_neg c_7 hM
          refine lv_iload_n hx hb dX6_read_47 rfl (lv_at hl 2 rfl) ?_
          refine lv_if_ne (tgt := 58) hx hb dX6_read_48 (by decide) (fun c_8 => ?_) (fun c_8 => ?_)
          · have hM := on_neg c_8 hM
            refine lv_aload_n hx hb dX6_read_58 rfl (lv_at hl 0 rfl) ?_
            obtain ⟨q_9, hq_9, hM⟩ := on_bind hM
            refine on_callV (rest := []) (As := []) (st1 := [.int q_9]) (C := RX6) (ci := 6) (q0 := 0) (wc := [(h_t, .inr (6, [.ref h_t_state, .ref h_t_images, .ref h_t_isKept, .ref h_t_pad, .int t_said, .int t_leastSize, .int t_leastSet, .int t_found, .ref h_t_row, .ref h_t_isUsed, .ref h_t_table, .int t_rank, .long t_determinant])), (h_t_state, .inl (cI, 4, .inl t_state)), (h_t_pad, .inl (cI, 35, .inl t_pad))]) (wr := []) (wc' := [(h_t, .inr (6, [.ref h_t_state, .ref h_t_images, .ref h_t_isKept, .ref h_t_pad, .int t_said, .int t_leastSize, .int t_leastSet, .int t_found, .ref h_t_row, .ref h_t_isUsed, .ref h_t_table, .int t_rank, .long t_determinant])), (h_t_state, .inl (cI, 4, .inl t_state)), (h_t_pad, .inl (cI, 35, .inl t_pad))]) (wf := [(h_t, .inr (6, [.ref h_t_state, .ref h_t_images, .ref h_t_isKept, .ref h_t_pad, .int t_said, .int t_leastSize, .int t_leastSet, .int t_found, .ref h_t_row, .ref h_t_isUsed, .ref h_t_table, .int t_rank, .long t_determinant])), (h_t_state, .inl (cI, 4, .inl t_state)), (h_t_pad, .inl (cI, 35, .inl t_pad))]) (rt := (some (.int q_9))) ⟨hx, hb, hml, hown, hts⟩ (k_X6_netOfTriples h_t h_t_state h_t_images h_t_isKept h_t_pad h_t_row h_t_isUsed h_t_table t_said t_leastSize t_leastSet t_found t_rank t_determinant t_state t_pad q_9 hq_9) (cwV 0 hts gX6_read_X6_netOfTriples rfl rfl rfl ⟨rfl, hdX6_netOfTriples⟩ ⟨(Nat.le_of_ble_eq_true rfl), (Nat.le_of_ble_eq_true rfl)⟩) hK hN hP hD hS hA [0, 1, 2] [] [0, 1, 2] rfl rfl rfl rfl (by decide) rfl rfl rfl rfl rfl rfl hl.1 rfl (Nat.le_of_ble_eq_true rfl) rfl dX6_read_59 ⟨Nat.zero_le _, Nat.zero_le _⟩ (fun H locs hP hD hS => ?_)
            refine lv_istore_n (lv' := [(3, .int q_9), (0, .ref h_t), (1, .int v1), (2, .int v2)]) hx hb dX6_read_62 rfl hl (by decide) rfl (fun ls hl => ?_)
            refine lv_aload_n hx hb dX6_read_63 rfl (lv_at hl 1 rfl) ?_
            refine lv_iconst (v := 0) hx hb dX6_read_64 (by decide) ?_
            refine va_put (D := D) (ci := 6) (v := .int (0 : Int32)) (ty := .int) (C := RX6) (T := TX6) (N := 13) hx hb hts w2 tyX6 tyX6_ok nmX6 hown hK hP hD hS 0 rfl rfl 4 (by decide) w1 (fun _ h9 => h9) rfl (by decide +kernel) rfl rfl (Nat.le_of_ble_eq_true rfl) dX6_read_65 (fun H locs hP hD hS => ?_)
            have hP : va_P D vwCl [(h_t, .inr (6, [.ref h_t_state, .ref h_t_images, .ref h_t_isKept, .ref h_t_pad, .int (0 : Int32), .int t_leastSize, .int t_leastSet, .int t_found, .ref h_t_row, .ref h_t_isUsed, .ref h_t_table, .int t_rank, .long t_determinant])), (h_t_state, .inl (cI, 4, .inl t_state)), (h_t_pad, .inl (cI, 35, .inl t_pad))] H := hP
            have hD : va_D A [(h_t, .inr (6, [.ref h_t_state, .ref h_t_images, .ref h_t_isKept, .ref h_t_pad, .int (0 : Int32), .int t_leastSize, .int t_leastSet, .int t_found, .ref h_t_row, .ref h_t_isUsed, .ref h_t_table, .int t_rank, .long t_determinant])), (h_t_state, .inl (cI, 4, .inl t_state)), (h_t_pad, .inl (cI, 35, .inl t_pad))] := hD
            refine lv_aload_n hx hb dX6_read_68 rfl (lv_at hl 1 rfl) ?_
            refine lv_iload_n hx hb dX6_read_69 rfl (lv_at hl 2 rfl) ?_
            refine lv_iload_n hx hb dX6_read_70 rfl (lv_at hl 0 rfl) ?_
            obtain ⟨q_10, hq_10, hM⟩ := on_bind hM
            refine on_callV (rest := []) (As := [.int v1, .int q_9]) (st1 := [.int q_10.1]) (C := RX6) (ci := 6) (q0 := 0) (wc := [(h_t, .inr (6, [.ref h_t_state, .ref h_t_images, .ref h_t_isKept, .ref h_t_pad, .int (0 : Int32), .int t_leastSize, .int t_leastSet, .int t_found, .ref h_t_row, .ref h_t_isUsed, .ref h_t_table, .int t_rank, .long t_determinant])), (h_t_state, .inl (cI, 4, .inl t_state))]) (wr := [(h_t_pad, .inl (cI, 35, .inl t_pad))]) (wc' := [(h_t, .inr (6, [.ref h_t_state, .ref h_t_images, .ref h_t_isKept, .ref h_t_pad, .int (0 : Int32), .int t_leastSize, .int t_leastSet, .int t_found, .ref h_t_row, .ref h_t_isUsed, .ref h_t_table, .int t_rank, .long t_determinant])), (h_t_state, .inl (cI, 4, .inl q_10.2))]) (wf := [(h_t, .inr (6, [.ref h_t_state, .ref h_t_images, .ref h_t_isKept, .ref h_t_pad, .int (0 : Int32), .int t_leastSize, .int t_leastSet, .int t_found, .ref h_t_row, .ref h_t_isUsed, .ref h_t_table, .int t_rank, .long t_determinant])), (h_t_state, .inl (cI, 4, .inl q_10.2)), (h_t_pad, .inl (cI, 35, .inl t_pad))]) (rt := (some (.int q_10.1))) ⟨hx, hb, hml, hown, hts⟩ (k_X6_hold h_t h_t_state h_t_images h_t_isKept h_t_pad h_t_row h_t_isUsed h_t_table (0 : Int32) t_leastSize t_leastSet t_found t_rank t_determinant t_state v1 q_9 q_10 hq_10) (cwV 2 hts gX6_read_X6_hold rfl rfl rfl ⟨rfl, hdX6_hold⟩ ⟨(Nat.le_of_ble_eq_true rfl), (Nat.le_of_ble_eq_true rfl)⟩) hK hN hP hD hS hA [0, 1] [2] [1, 2, 0] rfl rfl rfl rfl (by decide) rfl rfl rfl rfl rfl rfl hl.1 rfl (Nat.le_of_ble_eq_true rfl) rfl dX6_read_71 ⟨Nat.zero_le _, Nat.zero_le _⟩ (fun H locs hP hD hS => ?_)
            have hM := Option.some.inj hM
            subst hM
            rw [← hQ]
            exact on_iret hx hb hr hlk hP hD hS dX6_read_74
          · have hM := on_pos c_8 hM
            refine lv_aload_n hx hb dX6_read_51 rfl (lv_at hl 0 rfl) ?_
            obtain ⟨q_11, hq_11, hM⟩ := on_bind hM
            refine on_callV (rest := []) (As := []) (st1 := [.int q_11]) (C := RX6) (ci := 6) (q0 := 0) (wc := [(h_t, .inr (6, [.ref h_t_state, .ref h_t_images, .ref h_t_isKept, .ref h_t_pad, .int t_said, .int t_leastSize, .int t_leastSet, .int t_found, .ref h_t_row, .ref h_t_isUsed, .ref h_t_table, .int t_rank, .long t_determinant])), (h_t_pad, .inl (cI, 35, .inl t_pad))]) (wr := [(h_t_state, .inl (cI, 4, .inl t_state))]) (wc' := [(h_t, .inr (6, [.ref h_t_state, .ref h_t_images, .ref h_t_isKept, .ref h_t_pad, .int t_said, .int t_leastSize, .int t_leastSet, .int t_found, .ref h_t_row, .ref h_t_isUsed, .ref h_t_table, .int t_rank, .long t_determinant])), (h_t_pad, .inl (cI, 35, .inl t_pad))]) (wf := [(h_t, .inr (6, [.ref h_t_state, .ref h_t_images, .ref h_t_isKept, .ref h_t_pad, .int t_said, .int t_leastSize, .int t_leastSet, .int t_found, .ref h_t_row, .ref h_t_isUsed, .ref h_t_table, .int t_rank, .long t_determinant])), (h_t_state, .inl (cI, 4, .inl t_state)), (h_t_pad, .inl (cI, 35, .inl t_pad))]) (rt := (some (.int q_11))) ⟨hx, hb, hml, hown, hts⟩ (k_X6_netOfPad h_t h_t_state h_t_images h_t_isKept h_t_pad h_t_row h_t_isUsed h_t_table t_said t_leastSize t_leastSet t_found t_rank t_determinant t_pad q_11 hq_11) (cwV 0 hts gX6_read_X6_netOfPad rfl rfl rfl ⟨rfl, hdX6_netOfPad⟩ ⟨(Nat.le_of_ble_eq_true rfl), (Nat.le_of_ble_eq_true rfl)⟩) hK hN hP hD hS hA [0, 2] [1] [1, 0, 2] rfl rfl rfl rfl (by decide) rfl rfl rfl rfl rfl rfl hl.1 rfl (Nat.le_of_ble_eq_true rfl) rfl dX6_read_52 ⟨Nat.zero_le _, Nat.zero_le _⟩ (fun H locs hP hD hS => ?_)
            refine lv_goto (tgt := 62) hx hb dX6_read_55 (by decide) ?_
            refine lv_istore_n (lv' := [(3, .int q_11), (0, .ref h_t), (1, .int v1), (2, .int v2)]) hx hb dX6_read_62 rfl hl (by decide) rfl (fun ls hl => ?_)
            refine lv_aload_n hx hb dX6_read_63 rfl (lv_at hl 1 rfl) ?_
            refine lv_iconst (v := 0) hx hb dX6_read_64 (by decide) ?_
            refine va_put (D := D) (ci := 6) (v := .int (0 : Int32)) (ty := .int) (C := RX6) (T := TX6) (N := 13) hx hb hts w2 tyX6 tyX6_ok nmX6 hown hK hP hD hS 0 rfl rfl 4 (by decide) w1 (fun _ h9 => h9) rfl (by decide +kernel) rfl rfl (Nat.le_of_ble_eq_true rfl) dX6_read_65 (fun H locs hP hD hS => ?_)
            have hP : va_P D vwCl [(h_t, .inr (6, [.ref h_t_state, .ref h_t_images, .ref h_t_isKept, .ref h_t_pad, .int (0 : Int32), .int t_leastSize, .int t_leastSet, .int t_found, .ref h_t_row, .ref h_t_isUsed, .ref h_t_table, .int t_rank, .long t_determinant])), (h_t_state, .inl (cI, 4, .inl t_state)), (h_t_pad, .inl (cI, 35, .inl t_pad))] H := hP
            have hD : va_D A [(h_t, .inr (6, [.ref h_t_state, .ref h_t_images, .ref h_t_isKept, .ref h_t_pad, .int (0 : Int32), .int t_leastSize, .int t_leastSet, .int t_found, .ref h_t_row, .ref h_t_isUsed, .ref h_t_table, .int t_rank, .long t_determinant])), (h_t_state, .inl (cI, 4, .inl t_state)), (h_t_pad, .inl (cI, 35, .inl t_pad))] := hD
            refine lv_aload_n hx hb dX6_read_68 rfl (lv_at hl 1 rfl) ?_
            refine lv_iload_n hx hb dX6_read_69 rfl (lv_at hl 2 rfl) ?_
            refine lv_iload_n hx hb dX6_read_70 rfl (lv_at hl 0 rfl) ?_
            obtain ⟨q_12, hq_12, hM⟩ := on_bind hM
            refine on_callV (rest := []) (As := [.int v1, .int q_11]) (st1 := [.int q_12.1]) (C := RX6) (ci := 6) (q0 := 0) (wc := [(h_t, .inr (6, [.ref h_t_state, .ref h_t_images, .ref h_t_isKept, .ref h_t_pad, .int (0 : Int32), .int t_leastSize, .int t_leastSet, .int t_found, .ref h_t_row, .ref h_t_isUsed, .ref h_t_table, .int t_rank, .long t_determinant])), (h_t_state, .inl (cI, 4, .inl t_state))]) (wr := [(h_t_pad, .inl (cI, 35, .inl t_pad))]) (wc' := [(h_t, .inr (6, [.ref h_t_state, .ref h_t_images, .ref h_t_isKept, .ref h_t_pad, .int (0 : Int32), .int t_leastSize, .int t_leastSet, .int t_found, .ref h_t_row, .ref h_t_isUsed, .ref h_t_table, .int t_rank, .long t_determinant])), (h_t_state, .inl (cI, 4, .inl q_12.2))]) (wf := [(h_t, .inr (6, [.ref h_t_state, .ref h_t_images, .ref h_t_isKept, .ref h_t_pad, .int (0 : Int32), .int t_leastSize, .int t_leastSet, .int t_found, .ref h_t_row, .ref h_t_isUsed, .ref h_t_table, .int t_rank, .long t_determinant])), (h_t_state, .inl (cI, 4, .inl q_12.2)), (h_t_pad, .inl (cI, 35, .inl t_pad))]) (rt := (some (.int q_12.1))) ⟨hx, hb, hml, hown, hts⟩ (k_X6_hold h_t h_t_state h_t_images h_t_isKept h_t_pad h_t_row h_t_isUsed h_t_table (0 : Int32) t_leastSize t_leastSet t_found t_rank t_determinant t_state v1 q_11 q_12 hq_12) (cwV 2 hts gX6_read_X6_hold rfl rfl rfl ⟨rfl, hdX6_hold⟩ ⟨(Nat.le_of_ble_eq_true rfl), (Nat.le_of_ble_eq_true rfl)⟩) hK hN hP hD hS hA [0, 1] [2] [1, 2, 0] rfl rfl rfl rfl (by decide) rfl rfl rfl rfl rfl rfl hl.1 rfl (Nat.le_of_ble_eq_true rfl) rfl dX6_read_71 ⟨Nat.zero_le _, Nat.zero_le _⟩ (fun H locs hP hD hS => ?_)
            have hM := Option.some.inj hM
            subst hM
            rw [← hQ]
            exact on_iret hx hb hr hlk hP hD hS dX6_read_74
        · have hM := on_pos c_7 hM
          refine lv_aload_n hx hb dX6_read_37 rfl (lv_at hl 0 rfl) ?_
          obtain ⟨q_13, hq_13, hM⟩ := on_bind hM
          refine on_callV (rest := []) (As := []) (st1 := [.int q_13]) (C := RX6) (ci := 6) (q0 := 0) (wc := [(h_t, .inr (6, [.ref h_t_state, .ref h_t_images, .ref h_t_isKept, .ref h_t_pad, .int t_said, .int t_leastSize, .int t_leastSet, .int t_found, .ref h_t_row, .ref h_t_isUsed, .ref h_t_table, .int t_rank, .long t_determinant])), (h_t_state, .inl (cI, 4, .inl t_state)), (h_t_pad, .inl (cI, 35, .inl t_pad))]) (wr := []) (wc' := [(h_t, .inr (6, [.ref h_t_state, .ref h_t_images, .ref h_t_isKept, .ref h_t_pad, .int t_said, .int t_leastSize, .int t_leastSet, .int t_found, .ref h_t_row, .ref h_t_isUsed, .ref h_t_table, .int t_rank, .long t_determinant])), (h_t_state, .inl (cI, 4, .inl t_state)), (h_t_pad, .inl (cI, 35, .inl t_pad))]) (wf := [(h_t, .inr (6, [.ref h_t_state, .ref h_t_images, .ref h_t_isKept, .ref h_t_pad, .int t_said, .int t_leastSize, .int t_leastSet, .int t_found, .ref h_t_row, .ref h_t_isUsed, .ref h_t_table, .int t_rank, .long t_determinant])), (h_t_state, .inl (cI, 4, .inl t_state)), (h_t_pad, .inl (cI, 35, .inl t_pad))]) (rt := (some (.int q_13))) ⟨hx, hb, hml, hown, hts⟩ (k_X6_areFit h_t h_t_state h_t_images h_t_isKept h_t_pad h_t_row h_t_isUsed h_t_table t_said t_leastSize t_leastSet t_found t_rank t_determinant t_state t_pad q_13 hq_13) (cwV 0 hts gX6_read_X6_areFit rfl rfl rfl ⟨rfl, hdX6_areFit⟩ ⟨(Nat.le_of_ble_eq_true rfl), (Nat.le_of_ble_eq_true rfl)⟩) hK hN hP hD hS hA [0, 1, 2] [] [0, 1, 2] rfl rfl rfl rfl (by decide) rfl rfl rfl rfl rfl rfl hl.1 rfl (Nat.le_of_ble_eq_true rfl) rfl dX6_read_38 ⟨Nat.zero_le _, Nat.zero_le _⟩ (fun H locs hP hD hS => ?_)
          refine lv_if_ne (tgt := 47) hx hb dX6_read_41 (by decide) (fun c_14 => ?_) (fun c_14 => ?_)
          · have hM := on_neg c_14 hM
            refine lv_iload_n hx hb dX6_read_47 rfl (lv_at hl 2 rfl) ?_
            refine lv_if_ne (tgt := 58) hx hb dX6_read_48 (by decide) (fun c_15 => ?_) (fun c_15 => ?_)
            · have hM := on_neg c_15 hM
              refine lv_aload_n hx hb dX6_read_58 rfl (lv_at hl 0 rfl) ?_
              obtain ⟨q_16, hq_16, hM⟩ := on_bind hM
              refine on_callV (rest := []) (As := []) (st1 := [.int q_16]) (C := RX6) (ci := 6) (q0 := 0) (wc := [(h_t, .inr (6, [.ref h_t_state, .ref h_t_images, .ref h_t_isKept, .ref h_t_pad, .int t_said, .int t_leastSize, .int t_leastSet, .int t_found, .ref h_t_row, .ref h_t_isUsed, .ref h_t_table, .int t_rank, .long t_determinant])), (h_t_state, .inl (cI, 4, .inl t_state)), (h_t_pad, .inl (cI, 35, .inl t_pad))]) (wr := []) (wc' := [(h_t, .inr (6, [.ref h_t_state, .ref h_t_images, .ref h_t_isKept, .ref h_t_pad, .int t_said, .int t_leastSize, .int t_leastSet, .int t_found, .ref h_t_row, .ref h_t_isUsed, .ref h_t_table, .int t_rank, .long t_determinant])), (h_t_state, .inl (cI, 4, .inl t_state)), (h_t_pad, .inl (cI, 35, .inl t_pad))]) (wf := [(h_t, .inr (6, [.ref h_t_state, .ref h_t_images, .ref h_t_isKept, .ref h_t_pad, .int t_said, .int t_leastSize, .int t_leastSet, .int t_found, .ref h_t_row, .ref h_t_isUsed, .ref h_t_table, .int t_rank, .long t_determinant])), (h_t_state, .inl (cI, 4, .inl t_state)), (h_t_pad, .inl (cI, 35, .inl t_pad))]) (rt := (some (.int q_16))) ⟨hx, hb, hml, hown, hts⟩ (k_X6_netOfTriples h_t h_t_state h_t_images h_t_isKept h_t_pad h_t_row h_t_isUsed h_t_table t_said t_leastSize t_leastSet t_found t_rank t_determinant t_state t_pad q_16 hq_16) (cwV 0 hts gX6_read_X6_netOfTriples rfl rfl rfl ⟨rfl, hdX6_netOfTriples⟩ ⟨(Nat.le_of_ble_eq_true rfl), (Nat.le_of_ble_eq_true rfl)⟩) hK hN hP hD hS hA [0, 1, 2] [] [0, 1, 2] rfl rfl rfl rfl (by decide) rfl rfl rfl rfl rfl rfl hl.1 rfl (Nat.le_of_ble_eq_true rfl) rfl dX6_read_59 ⟨Nat.zero_le _, Nat.zero_le _⟩ (fun H locs hP hD hS => ?_)
              refine lv_istore_n (lv' := [(3, .int q_16), (0, .ref h_t), (1, .int v1), (2, .int v2)]) hx hb dX6_read_62 rfl hl (by decide) rfl (fun ls hl => ?_)
              refine lv_aload_n hx hb dX6_read_63 rfl (lv_at hl 1 rfl) ?_
              refine lv_iconst (v := 0) hx hb dX6_read_64 (by decide) ?_
              refine va_put (D := D) (ci := 6) (v := .int (0 : Int32)) (ty := .int) (C := RX6) (T := TX6) (N := 13) hx hb hts w2 tyX6 tyX6_ok nmX6 hown hK hP hD hS 0 rfl rfl 4 (by decide) w1 (fun _ h9 => h9) rfl (by decide +kernel) rfl rfl (Nat.le_of_ble_eq_true rfl) dX6_read_65 (fun H locs hP hD hS => ?_)
              have hP : va_P D vwCl [(h_t, .inr (6, [.ref h_t_state, .ref h_t_images, .ref h_t_isKept, .ref h_t_pad, .int (0 : Int32), .int t_leastSize, .int t_leastSet, .int t_found, .ref h_t_row, .ref h_t_isUsed, .ref h_t_table, .int t_rank, .long t_determinant])), (h_t_state, .inl (cI, 4, .inl t_state)), (h_t_pad, .inl (cI, 35, .inl t_pad))] H := hP
              have hD : va_D A [(h_t, .inr (6, [.ref h_t_state, .ref h_t_images, .ref h_t_isKept, .ref h_t_pad, .int (0 : Int32), .int t_leastSize, .int t_leastSet, .int t_found, .ref h_t_row, .ref h_t_isUsed, .ref h_t_table, .int t_rank, .long t_determinant])), (h_t_state, .inl (cI, 4, .inl t_state)), (h_t_pad, .inl (cI, 35, .inl t_pad))] := hD
              refine lv_aload_n hx hb dX6_read_68 rfl (lv_at hl 1 rfl) ?_
              refine lv_iload_n hx hb dX6_read_69 rfl (lv_at hl 2 rfl) ?_
              refine lv_iload_n hx hb dX6_read_70 rfl (lv_at hl 0 rfl) ?_
              obtain ⟨q_17, hq_17, hM⟩ := on_bind hM
              refine on_callV (rest := []) (As := [.int v1, .int q_16]) (st1 := [.int q_17.1]) (C := RX6) (ci := 6) (q0 := 0) (wc := [(h_t, .inr (6, [.ref h_t_state, .ref h_t_images, .ref h_t_isKept, .ref h_t_pad, .int (0 : Int32), .int t_leastSize, .int t_leastSet, .int t_found, .ref h_t_row, .ref h_t_isUsed, .ref h_t_table, .int t_rank, .long t_determinant])), (h_t_state, .inl (cI, 4, .inl t_state))]) (wr := [(h_t_pad, .inl (cI, 35, .inl t_pad))]) (wc' := [(h_t, .inr (6, [.ref h_t_state, .ref h_t_images, .ref h_t_isKept, .ref h_t_pad, .int (0 : Int32), .int t_leastSize, .int t_leastSet, .int t_found, .ref h_t_row, .ref h_t_isUsed, .ref h_t_table, .int t_rank, .long t_determinant])), (h_t_state, .inl (cI, 4, .inl q_17.2))]) (wf := [(h_t, .inr (6, [.ref h_t_state, .ref h_t_images, .ref h_t_isKept, .ref h_t_pad, .int (0 : Int32), .int t_leastSize, .int t_leastSet, .int t_found, .ref h_t_row, .ref h_t_isUsed, .ref h_t_table, .int t_rank, .long t_determinant])), (h_t_state, .inl (cI, 4, .inl q_17.2)), (h_t_pad, .inl (cI, 35, .inl t_pad))]) (rt := (some (.int q_17.1))) ⟨hx, hb, hml, hown, hts⟩ (k_X6_hold h_t h_t_state h_t_images h_t_isKept h_t_pad h_t_row h_t_isUsed h_t_table (0 : Int32) t_leastSize t_leastSet t_found t_rank t_determinant t_state v1 q_16 q_17 hq_17) (cwV 2 hts gX6_read_X6_hold rfl rfl rfl ⟨rfl, hdX6_hold⟩ ⟨(Nat.le_of_ble_eq_true rfl), (Nat.le_of_ble_eq_true rfl)⟩) hK hN hP hD hS hA [0, 1] [2] [1, 2, 0] rfl rfl rfl rfl (by decide) rfl rfl rfl rfl rfl rfl hl.1 rfl (Nat.le_of_ble_eq_true rfl) rfl dX6_read_71 ⟨Nat.zero_le _, Nat.zero_le _⟩ (fun H locs hP hD hS => ?_)
              have hM := Option.some.inj hM
              subst hM
              rw [← hQ]
              exact on_iret hx hb hr hlk hP hD hS dX6_read_74
            · have hM := on_pos c_15 hM
              refine lv_aload_n hx hb dX6_read_51 rfl (lv_at hl 0 rfl) ?_
              obtain ⟨q_18, hq_18, hM⟩ := on_bind hM
              refine on_callV (rest := []) (As := []) (st1 := [.int q_18]) (C := RX6) (ci := 6) (q0 := 0) (wc := [(h_t, .inr (6, [.ref h_t_state, .ref h_t_images, .ref h_t_isKept, .ref h_t_pad, .int t_said, .int t_leastSize, .int t_leastSet, .int t_found, .ref h_t_row, .ref h_t_isUsed, .ref h_t_table, .int t_rank, .long t_determinant])), (h_t_pad, .inl (cI, 35, .inl t_pad))]) (wr := [(h_t_state, .inl (cI, 4, .inl t_state))]) (wc' := [(h_t, .inr (6, [.ref h_t_state, .ref h_t_images, .ref h_t_isKept, .ref h_t_pad, .int t_said, .int t_leastSize, .int t_leastSet, .int t_found, .ref h_t_row, .ref h_t_isUsed, .ref h_t_table, .int t_rank, .long t_determinant])), (h_t_pad, .inl (cI, 35, .inl t_pad))]) (wf := [(h_t, .inr (6, [.ref h_t_state, .ref h_t_images, .ref h_t_isKept, .ref h_t_pad, .int t_said, .int t_leastSize, .int t_leastSet, .int t_found, .ref h_t_row, .ref h_t_isUsed, .ref h_t_table, .int t_rank, .long t_determinant])), (h_t_state, .inl (cI, 4, .inl t_state)), (h_t_pad, .inl (cI, 35, .inl t_pad))]) (rt := (some (.int q_18))) ⟨hx, hb, hml, hown, hts⟩ (k_X6_netOfPad h_t h_t_state h_t_images h_t_isKept h_t_pad h_t_row h_t_isUsed h_t_table t_said t_leastSize t_leastSet t_found t_rank t_determinant t_pad q_18 hq_18) (cwV 0 hts gX6_read_X6_netOfPad rfl rfl rfl ⟨rfl, hdX6_netOfPad⟩ ⟨(Nat.le_of_ble_eq_true rfl), (Nat.le_of_ble_eq_true rfl)⟩) hK hN hP hD hS hA [0, 2] [1] [1, 0, 2] rfl rfl rfl rfl (by decide) rfl rfl rfl rfl rfl rfl hl.1 rfl (Nat.le_of_ble_eq_true rfl) rfl dX6_read_52 ⟨Nat.zero_le _, Nat.zero_le _⟩ (fun H locs hP hD hS => ?_)
              refine lv_goto (tgt := 62) hx hb dX6_read_55 (by decide) ?_
              refine lv_istore_n (lv' := [(3, .int q_18), (0, .ref h_t), (1, .int v1), (2, .int v2)]) hx hb dX6_read_62 rfl hl (by decide) rfl (fun ls hl => ?_)
              refine lv_aload_n hx hb dX6_read_63 rfl (lv_at hl 1 rfl) ?_
              refine lv_iconst (v := 0) hx hb dX6_read_64 (by decide) ?_
              refine va_put (D := D) (ci := 6) (v := .int (0 : Int32)) (ty := .int) (C := RX6) (T := TX6) (N := 13) hx hb hts w2 tyX6 tyX6_ok nmX6 hown hK hP hD hS 0 rfl rfl 4 (by decide) w1 (fun _ h9 => h9) rfl (by decide +kernel) rfl rfl (Nat.le_of_ble_eq_true rfl) dX6_read_65 (fun H locs hP hD hS => ?_)
              have hP : va_P D vwCl [(h_t, .inr (6, [.ref h_t_state, .ref h_t_images, .ref h_t_isKept, .ref h_t_pad, .int (0 : Int32), .int t_leastSize, .int t_leastSet, .int t_found, .ref h_t_row, .ref h_t_isUsed, .ref h_t_table, .int t_rank, .long t_determinant])), (h_t_state, .inl (cI, 4, .inl t_state)), (h_t_pad, .inl (cI, 35, .inl t_pad))] H := hP
              have hD : va_D A [(h_t, .inr (6, [.ref h_t_state, .ref h_t_images, .ref h_t_isKept, .ref h_t_pad, .int (0 : Int32), .int t_leastSize, .int t_leastSet, .int t_found, .ref h_t_row, .ref h_t_isUsed, .ref h_t_table, .int t_rank, .long t_determinant])), (h_t_state, .inl (cI, 4, .inl t_state)), (h_t_pad, .inl (cI, 35, .inl t_pad))] := hD
              refine lv_aload_n hx hb dX6_read_68 rfl (lv_at hl 1 rfl) ?_
              refine lv_iload_n hx hb dX6_read_69 rfl (lv_at hl 2 rfl) ?_
              refine lv_iload_n hx hb dX6_read_70 rfl (lv_at hl 0 rfl) ?_
              obtain ⟨q_19, hq_19, hM⟩ := on_bind hM
              refine on_callV (rest := []) (As := [.int v1, .int q_18]) (st1 := [.int q_19.1]) (C := RX6) (ci := 6) (q0 := 0) (wc := [(h_t, .inr (6, [.ref h_t_state, .ref h_t_images, .ref h_t_isKept, .ref h_t_pad, .int (0 : Int32), .int t_leastSize, .int t_leastSet, .int t_found, .ref h_t_row, .ref h_t_isUsed, .ref h_t_table, .int t_rank, .long t_determinant])), (h_t_state, .inl (cI, 4, .inl t_state))]) (wr := [(h_t_pad, .inl (cI, 35, .inl t_pad))]) (wc' := [(h_t, .inr (6, [.ref h_t_state, .ref h_t_images, .ref h_t_isKept, .ref h_t_pad, .int (0 : Int32), .int t_leastSize, .int t_leastSet, .int t_found, .ref h_t_row, .ref h_t_isUsed, .ref h_t_table, .int t_rank, .long t_determinant])), (h_t_state, .inl (cI, 4, .inl q_19.2))]) (wf := [(h_t, .inr (6, [.ref h_t_state, .ref h_t_images, .ref h_t_isKept, .ref h_t_pad, .int (0 : Int32), .int t_leastSize, .int t_leastSet, .int t_found, .ref h_t_row, .ref h_t_isUsed, .ref h_t_table, .int t_rank, .long t_determinant])), (h_t_state, .inl (cI, 4, .inl q_19.2)), (h_t_pad, .inl (cI, 35, .inl t_pad))]) (rt := (some (.int q_19.1))) ⟨hx, hb, hml, hown, hts⟩ (k_X6_hold h_t h_t_state h_t_images h_t_isKept h_t_pad h_t_row h_t_isUsed h_t_table (0 : Int32) t_leastSize t_leastSet t_found t_rank t_determinant t_state v1 q_18 q_19 hq_19) (cwV 2 hts gX6_read_X6_hold rfl rfl rfl ⟨rfl, hdX6_hold⟩ ⟨(Nat.le_of_ble_eq_true rfl), (Nat.le_of_ble_eq_true rfl)⟩) hK hN hP hD hS hA [0, 1] [2] [1, 2, 0] rfl rfl rfl rfl (by decide) rfl rfl rfl rfl rfl rfl hl.1 rfl (Nat.le_of_ble_eq_true rfl) rfl dX6_read_71 ⟨Nat.zero_le _, Nat.zero_le _⟩ (fun H locs hP hD hS => ?_)
              have hM := Option.some.inj hM
              subst hM
              rw [← hQ]
              exact on_iret hx hb hr hlk hP hD hS dX6_read_74
          · have hM := on_pos c_14 hM
            refine lv_bipush (v := -3) hx hb dX6_read_44 (by decide) ?_
            have hM := Option.some.inj hM
            subst hM
            rw [← hQ]
            exact on_iret hx hb hr hlk hP hD hS dX6_read_46
      · have hM := on_neg c_6 hM
        refine lv_bipush (v := -7) hx hb dX6_read_29 (by decide) ?_
        have hM := Option.some.inj hM
        subst hM
        rw [← hQ]
        exact on_iret hx hb hr hlk hP hD hS dX6_read_31
    · have hM := on_pos c_4 hM
      refine lv_bipush (v := -2) hx hb dX6_read_18 (by decide) ?_
      have hM := Option.some.inj hM
      subst hM
      rw [← hQ]
      exact on_iret hx hb hr hlk hP hD hS dX6_read_20
  · have hM := on_pos c_2 hM
    refine lv_iconst (v := -1) hx hb dX6_read_7 (by decide) ?_
    have hM := Option.some.inj hM
    subst hM
    rw [← hQ]
    exact on_iret hx hb hr hlk hP hD hS dX6_read_8
abbrev rm_X6_turn : Room := { frames := 3, cells := 0, slots := 0, locals := 70 }
set_option maxHeartbeats 4000000 in
set_option maxRecDepth 100000 in
theorem k_X6_turn {l : Launch} {D : va_G} {cI cJ cZ cS cA : ClassId} (h_t : Nat) (h_t_state : Nat) (h_t_images : Nat) (h_t_isKept : Nat) (h_t_pad : Nat) (h_t_row : Nat) (h_t_isUsed : Nat) (h_t_table : Nat) (t_said : Int32) (t_leastSize : Int32) (t_leastSet : Int32) (t_found : Int32) (t_rank : Int32) (t_determinant : Int64) (t_state : Nat → Int32) (v1 : Int32) (v2 : Int32) (v3 : Int32) (out : Int32 × (Nat → Int32)) (hM : M_X6_turn v1 v2 v3 t_state = some out) : on_Con l yX6_turn wsX6_turn rm_X6_turn [.ref h_t, .int v1, .int v2, .int v3] D (on_T cI cJ cZ cS cA) [(h_t, .inr (6, [.ref h_t_state, .ref h_t_images, .ref h_t_isKept, .ref h_t_pad, .int t_said, .int t_leastSize, .int t_leastSet, .int t_found, .ref h_t_row, .ref h_t_isUsed, .ref h_t_table, .int t_rank, .long t_determinant])), (h_t_state, .inl (cI, 4, .inl t_state))] (some (.int out.1)) [(h_t, .inr (6, [.ref h_t_state, .ref h_t_images, .ref h_t_isKept, .ref h_t_pad, .int t_said, .int t_leastSize, .int t_leastSet, .int t_found, .ref h_t_row, .ref h_t_isUsed, .ref h_t_table, .int t_rank, .long t_determinant])), (h_t_state, .inl (cI, 4, .inl out.2))] := by
  unfold M_X6_turn at hM
  refine on_enter (cc := cX6_turn) (nL := 4) (rt := (some .int)) (own := RX6) (by decide +kernel) rfl rfl (Nat.le_of_ble_eq_true rfl) ?_
  intro p e s m below meth c A ls hx hb hml hr hlk hts hown hA hK hN H locs hP hD hS hl
  have hl : lv_has ls 4 [(0, .ref h_t), (1, .int v1), (2, .int v2), (3, .int v3)] := hl
  generalize hQ : MQ below (on_Q D (some (.int out.1)) [(h_t, .inr (6, [.ref h_t_state, .ref h_t_images, .ref h_t_isKept, .ref h_t_pad, .int t_said, .int t_leastSize, .int t_leastSet, .int t_found, .ref h_t_row, .ref h_t_isUsed, .ref h_t_table, .int t_rank, .long t_determinant])), (h_t_state, .inl (cI, 4, .inl out.2))] A) _ s 0 0 A = Q
  generalize hAr : List.toArray ([.ref h_t, .int v1, .int v2, .int v3] : List Value) = args at hts hQ ⊢
  refine lv_iload_n hx hb dX6_turn_0 rfl (lv_at hl 1 rfl) ?_
  obtain ⟨q_1, hq_1, hM⟩ := on_bind hM
  refine on_callS0 (rest := []) (As := [.int v1]) (st1 := [.int q_1]) ⟨hx, hb, hml, hown, hts⟩ (k_X6_isSlot v1 q_1 hq_1) (va_cwS 1 hts gX6_turn_X6_isSlot rfl rfl rfl hdX6_isSlot ⟨(Nat.le_of_ble_eq_true rfl), (Nat.le_of_ble_eq_true rfl)⟩) hK hN hP hD hS hA rfl hl.1 rfl (Nat.le_of_ble_eq_true rfl) rfl dX6_turn_1 ⟨Nat.zero_le _, Nat.zero_le _⟩ (fun H locs hP hS => ?_)
  refine lv_if_eq (tgt := 14) hx hb dX6_turn_4 (by decide) (fun c_2 => ?_) (fun c_2 => ?_)
  · have hM := on_pos c_2 hM
    refine lv_iconst (v := -1) hx hb dX6_turn_14 (by decide) ?_
    have hM := Option.some.inj hM
    subst hM
    rw [← hQ]
    exact on_iret hx hb hr hlk hP hD hS dX6_turn_15
  · have hM := on_neg c_2 hM
    refine lv_iload_n hx hb dX6_turn_7 rfl (lv_at hl 2 rfl) ?_
    obtain ⟨q_3, hq_3, hM⟩ := on_bind hM
    refine on_callS0 (rest := []) (As := [.int v2]) (st1 := [.int q_3]) ⟨hx, hb, hml, hown, hts⟩ (k_X6_isSlot v2 q_3 hq_3) (va_cwS 1 hts gX6_turn_X6_isSlot rfl rfl rfl hdX6_isSlot ⟨(Nat.le_of_ble_eq_true rfl), (Nat.le_of_ble_eq_true rfl)⟩) hK hN hP hD hS hA rfl hl.1 rfl (Nat.le_of_ble_eq_true rfl) rfl dX6_turn_8 ⟨Nat.zero_le _, Nat.zero_le _⟩ (fun H locs hP hS => ?_)
    refine lv_if_ne (tgt := 16) hx hb dX6_turn_11 (by decide) (fun c_4 => ?_) (fun c_4 => ?_)
    · have hM := on_neg c_4 hM
      refine lv_iload_n hx hb dX6_turn_16 rfl (lv_at hl 3 rfl) ?_
      refine lv_iconst (v := 0) hx hb dX6_turn_17 (by decide) ?_
      refine lv_iconst (v := 1) hx hb dX6_turn_18 (by decide) ?_
      refine lv_aload_n hx hb dX6_turn_19 rfl (lv_at hl 0 rfl) ?_
      obtain ⟨q_5, hq_5, hM⟩ := on_bind hM
      refine on_callV (rest := [.int (1 : Int32), .int (0 : Int32), .int v3]) (As := []) (st1 := [.int q_5, .int (1 : Int32), .int (0 : Int32), .int v3]) (C := RX6) (ci := 6) (q0 := 0) (wc := [(h_t, .inr (6, [.ref h_t_state, .ref h_t_images, .ref h_t_isKept, .ref h_t_pad, .int t_said, .int t_leastSize, .int t_leastSet, .int t_found, .ref h_t_row, .ref h_t_isUsed, .ref h_t_table, .int t_rank, .long t_determinant])), (h_t_state, .inl (cI, 4, .inl t_state))]) (wr := []) (wc' := [(h_t, .inr (6, [.ref h_t_state, .ref h_t_images, .ref h_t_isKept, .ref h_t_pad, .int t_said, .int t_leastSize, .int t_leastSet, .int t_found, .ref h_t_row, .ref h_t_isUsed, .ref h_t_table, .int t_rank, .long t_determinant])), (h_t_state, .inl (cI, 4, .inl t_state))]) (wf := [(h_t, .inr (6, [.ref h_t_state, .ref h_t_images, .ref h_t_isKept, .ref h_t_pad, .int t_said, .int t_leastSize, .int t_leastSet, .int t_found, .ref h_t_row, .ref h_t_isUsed, .ref h_t_table, .int t_rank, .long t_determinant])), (h_t_state, .inl (cI, 4, .inl t_state))]) (rt := (some (.int q_5))) ⟨hx, hb, hml, hown, hts⟩ (k_X6_many h_t h_t_state h_t_images h_t_isKept h_t_pad h_t_row h_t_isUsed h_t_table t_said t_leastSize t_leastSet t_found t_rank t_determinant t_state q_5 hq_5) (cwV 0 hts gX6_turn_X6_many rfl rfl rfl ⟨rfl, hdX6_many⟩ ⟨(Nat.le_of_ble_eq_true rfl), (Nat.le_of_ble_eq_true rfl)⟩) hK hN hP hD hS hA [0, 1] [] [0, 1] rfl rfl rfl rfl (by decide) rfl rfl rfl rfl rfl rfl hl.1 rfl (Nat.le_of_ble_eq_true rfl) rfl dX6_turn_20 ⟨Nat.zero_le _, Nat.zero_le _⟩ (fun H locs hP hD hS => ?_)
      refine lv_ishl hx hb dX6_turn_23 ?_
      refine lv_iconst (v := 1) hx hb dX6_turn_24 (by decide) ?_
      refine lv_isub hx hb dX6_turn_25 ?_
      obtain ⟨q_6, hq_6, hM⟩ := on_bind hM
      refine on_callS0 (rest := []) (As := [.int v3, .int (0 : Int32), .int (((1 : Int32) <<< (q_5 &&& 31)) - (1 : Int32))]) (st1 := [.int q_6]) ⟨hx, hb, hml, hown, hts⟩ (k_X6_in v3 (0 : Int32) (((1 : Int32) <<< (q_5 &&& 31)) - (1 : Int32)) q_6 hq_6) (va_cwS 3 hts gX6_turn_X6_in rfl rfl rfl hdX6_in ⟨(Nat.le_of_ble_eq_true rfl), (Nat.le_of_ble_eq_true rfl)⟩) hK hN hP hD hS hA rfl hl.1 rfl (Nat.le_of_ble_eq_true rfl) rfl dX6_turn_26 ⟨Nat.zero_le _, Nat.zero_le _⟩ (fun H locs hP hS => ?_)
      refine lv_if_eq (tgt := 53) hx hb dX6_turn_29 (by decide) (fun c_7 => ?_) (fun c_7 => ?_)
      · have hM := on_pos c_7 hM
        refine lv_bipush (v := -2) hx hb dX6_turn_53 (by decide) ?_
        have hM := Option.some.inj hM
        subst hM
        rw [← hQ]
        exact on_iret hx hb hr hlk hP hD hS dX6_turn_55
      · have hM := on_neg c_7 hM
        refine lv_aload_n hx hb dX6_turn_32 rfl (lv_at hl 0 rfl) ?_
        refine lv_iload_n hx hb dX6_turn_33 rfl (lv_at hl 1 rfl) ?_
        refine lv_aload_n hx hb dX6_turn_34 rfl (lv_at hl 0 rfl) ?_
        obtain ⟨q_8, hq_8, hM⟩ := on_bind hM
        refine on_callV (rest := [.int v1, .ref h_t]) (As := []) (st1 := [.int q_8, .int v1, .ref h_t]) (C := RX6) (ci := 6) (q0 := 0) (wc := [(h_t, .inr (6, [.ref h_t_state, .ref h_t_images, .ref h_t_isKept, .ref h_t_pad, .int t_said, .int t_leastSize, .int t_leastSet, .int t_found, .ref h_t_row, .ref h_t_isUsed, .ref h_t_table, .int t_rank, .long t_determinant])), (h_t_state, .inl (cI, 4, .inl t_state))]) (wr := []) (wc' := [(h_t, .inr (6, [.ref h_t_state, .ref h_t_images, .ref h_t_isKept, .ref h_t_pad, .int t_said, .int t_leastSize, .int t_leastSet, .int t_found, .ref h_t_row, .ref h_t_isUsed, .ref h_t_table, .int t_rank, .long t_determinant])), (h_t_state, .inl (cI, 4, .inl t_state))]) (wf := [(h_t, .inr (6, [.ref h_t_state, .ref h_t_images, .ref h_t_isKept, .ref h_t_pad, .int t_said, .int t_leastSize, .int t_leastSet, .int t_found, .ref h_t_row, .ref h_t_isUsed, .ref h_t_table, .int t_rank, .long t_determinant])), (h_t_state, .inl (cI, 4, .inl t_state))]) (rt := (some (.int q_8))) ⟨hx, hb, hml, hown, hts⟩ (k_X6_many h_t h_t_state h_t_images h_t_isKept h_t_pad h_t_row h_t_isUsed h_t_table t_said t_leastSize t_leastSet t_found t_rank t_determinant t_state q_8 hq_8) (cwV 0 hts gX6_turn_X6_many rfl rfl rfl ⟨rfl, hdX6_many⟩ ⟨(Nat.le_of_ble_eq_true rfl), (Nat.le_of_ble_eq_true rfl)⟩) hK hN hP hD hS hA [0, 1] [] [0, 1] rfl rfl rfl rfl (by decide) rfl rfl rfl rfl rfl rfl hl.1 rfl (Nat.le_of_ble_eq_true rfl) rfl dX6_turn_35 ⟨Nat.zero_le _, Nat.zero_le _⟩ (fun H locs hP hD hS => ?_)
        refine lv_aload_n hx hb dX6_turn_38 rfl (lv_at hl 0 rfl) ?_
        refine lv_iload_n hx hb dX6_turn_39 rfl (lv_at hl 2 rfl) ?_
        obtain ⟨q_9, hq_9, hM⟩ := on_bind hM
        refine on_callV (rest := [.int q_8, .int v1, .ref h_t]) (As := [.int v2]) (st1 := [.int q_9, .int q_8, .int v1, .ref h_t]) (C := RX6) (ci := 6) (q0 := 0) (wc := [(h_t, .inr (6, [.ref h_t_state, .ref h_t_images, .ref h_t_isKept, .ref h_t_pad, .int t_said, .int t_leastSize, .int t_leastSet, .int t_found, .ref h_t_row, .ref h_t_isUsed, .ref h_t_table, .int t_rank, .long t_determinant])), (h_t_state, .inl (cI, 4, .inl t_state))]) (wr := []) (wc' := [(h_t, .inr (6, [.ref h_t_state, .ref h_t_images, .ref h_t_isKept, .ref h_t_pad, .int t_said, .int t_leastSize, .int t_leastSet, .int t_found, .ref h_t_row, .ref h_t_isUsed, .ref h_t_table, .int t_rank, .long t_determinant])), (h_t_state, .inl (cI, 4, .inl t_state))]) (wf := [(h_t, .inr (6, [.ref h_t_state, .ref h_t_images, .ref h_t_isKept, .ref h_t_pad, .int t_said, .int t_leastSize, .int t_leastSet, .int t_found, .ref h_t_row, .ref h_t_isUsed, .ref h_t_table, .int t_rank, .long t_determinant])), (h_t_state, .inl (cI, 4, .inl t_state))]) (rt := (some (.int q_9))) ⟨hx, hb, hml, hown, hts⟩ (k_X6_netOf h_t h_t_state h_t_images h_t_isKept h_t_pad h_t_row h_t_isUsed h_t_table t_said t_leastSize t_leastSet t_found t_rank t_determinant t_state v2 q_9 hq_9) (cwV 1 hts gX6_turn_X6_netOf rfl rfl rfl ⟨rfl, hdX6_netOf⟩ ⟨(Nat.le_of_ble_eq_true rfl), (Nat.le_of_ble_eq_true rfl)⟩) hK hN hP hD hS hA [0, 1] [] [0, 1] rfl rfl rfl rfl (by decide) rfl rfl rfl rfl rfl rfl hl.1 rfl (Nat.le_of_ble_eq_true rfl) rfl dX6_turn_40 ⟨Nat.zero_le _, Nat.zero_le _⟩ (fun H locs hP hD hS => ?_)
        refine lv_iload_n hx hb dX6_turn_43 rfl (lv_at hl 3 rfl) ?_
        obtain ⟨q_10, hq_10, hM⟩ := on_bind hM
        refine on_callS0 (rest := [.int v1, .ref h_t]) (As := [.int q_8, .int q_9, .int v3]) (st1 := [.int q_10, .int v1, .ref h_t]) ⟨hx, hb, hml, hown, hts⟩ (k_X6_switched q_8 q_9 v3 q_10 hq_10) (va_cwS 3 hts gX6_turn_X6_switched rfl rfl rfl hdX6_switched ⟨(Nat.le_of_ble_eq_true rfl), (Nat.le_of_ble_eq_true rfl)⟩) hK hN hP hD hS hA rfl hl.1 rfl (Nat.le_of_ble_eq_true rfl) rfl dX6_turn_44 ⟨Nat.zero_le _, Nat.zero_le _⟩ (fun H locs hP hS => ?_)
        obtain ⟨q_11, hq_11, hM⟩ := on_bind hM
        refine on_callV (rest := []) (As := [.int v1, .int q_10]) (st1 := [.int q_11.1]) (C := RX6) (ci := 6) (q0 := 0) (wc := [(h_t, .inr (6, [.ref h_t_state, .ref h_t_images, .ref h_t_isKept, .ref h_t_pad, .int t_said, .int t_leastSize, .int t_leastSet, .int t_found, .ref h_t_row, .ref h_t_isUsed, .ref h_t_table, .int t_rank, .long t_determinant])), (h_t_state, .inl (cI, 4, .inl t_state))]) (wr := []) (wc' := [(h_t, .inr (6, [.ref h_t_state, .ref h_t_images, .ref h_t_isKept, .ref h_t_pad, .int t_said, .int t_leastSize, .int t_leastSet, .int t_found, .ref h_t_row, .ref h_t_isUsed, .ref h_t_table, .int t_rank, .long t_determinant])), (h_t_state, .inl (cI, 4, .inl q_11.2))]) (wf := [(h_t, .inr (6, [.ref h_t_state, .ref h_t_images, .ref h_t_isKept, .ref h_t_pad, .int t_said, .int t_leastSize, .int t_leastSet, .int t_found, .ref h_t_row, .ref h_t_isUsed, .ref h_t_table, .int t_rank, .long t_determinant])), (h_t_state, .inl (cI, 4, .inl q_11.2))]) (rt := (some (.int q_11.1))) ⟨hx, hb, hml, hown, hts⟩ (k_X6_hold h_t h_t_state h_t_images h_t_isKept h_t_pad h_t_row h_t_isUsed h_t_table t_said t_leastSize t_leastSet t_found t_rank t_determinant t_state v1 q_10 q_11 hq_11) (cwV 2 hts gX6_turn_X6_hold rfl rfl rfl ⟨rfl, hdX6_hold⟩ ⟨(Nat.le_of_ble_eq_true rfl), (Nat.le_of_ble_eq_true rfl)⟩) hK hN hP hD hS hA [0, 1] [] [0, 1] rfl rfl rfl rfl (by decide) rfl rfl rfl rfl rfl rfl hl.1 rfl (Nat.le_of_ble_eq_true rfl) rfl dX6_turn_47 ⟨Nat.zero_le _, Nat.zero_le _⟩ (fun H locs hP hD hS => ?_)
        refine lv_goto (tgt := 55) hx hb dX6_turn_50 (by decide) ?_
        have hM := Option.some.inj hM
        subst hM
        rw [← hQ]
        exact on_iret hx hb hr hlk hP hD hS dX6_turn_55
    · have hM := on_pos c_4 hM
      refine lv_iconst (v := -1) hx hb dX6_turn_14 (by decide) ?_
      have hM := Option.some.inj hM
      subst hM
      rw [← hQ]
      exact on_iret hx hb hr hlk hP hD hS dX6_turn_15
abbrev rm_X6_regular : Room := { frames := 5, cells := 0, slots := 0, locals := 117 }
set_option maxHeartbeats 4000000 in
set_option maxRecDepth 100000 in
theorem k_X6_regular {l : Launch} {D : va_G} {cI cJ cZ cS cA : ClassId} (h_t : Nat) (h_t_state : Nat) (h_t_images : Nat) (h_t_isKept : Nat) (h_t_pad : Nat) (h_t_row : Nat) (h_t_isUsed : Nat) (h_t_table : Nat) (t_said : Int32) (t_leastSize : Int32) (t_leastSet : Int32) (t_found : Int32) (t_rank : Int32) (t_determinant : Int64) (t_state : Nat → Int32) (v1 : Int32) (out : Int32) (hM : M_X6_regular v1 t_state = some out) : on_Con l yX6_regular wsX6_regular rm_X6_regular [.ref h_t, .int v1] D (on_T cI cJ cZ cS cA) [(h_t, .inr (6, [.ref h_t_state, .ref h_t_images, .ref h_t_isKept, .ref h_t_pad, .int t_said, .int t_leastSize, .int t_leastSet, .int t_found, .ref h_t_row, .ref h_t_isUsed, .ref h_t_table, .int t_rank, .long t_determinant])), (h_t_state, .inl (cI, 4, .inl t_state))] (some (.int out)) [(h_t, .inr (6, [.ref h_t_state, .ref h_t_images, .ref h_t_isKept, .ref h_t_pad, .int t_said, .int t_leastSize, .int t_leastSet, .int t_found, .ref h_t_row, .ref h_t_isUsed, .ref h_t_table, .int t_rank, .long t_determinant])), (h_t_state, .inl (cI, 4, .inl t_state))] := by
  unfold M_X6_regular at hM
  refine on_enter (cc := cX6_regular) (nL := 6) (rt := (some .int)) (own := RX6) (by decide +kernel) rfl rfl (Nat.le_of_ble_eq_true rfl) ?_
  intro p e s m below meth c A ls hx hb hml hr hlk hts hown hA hK hN H locs hP hD hS hl
  have hl : lv_has ls 6 [(0, .ref h_t), (1, .int v1)] := hl
  generalize hQ : MQ below (on_Q D (some (.int out)) [(h_t, .inr (6, [.ref h_t_state, .ref h_t_images, .ref h_t_isKept, .ref h_t_pad, .int t_said, .int t_leastSize, .int t_leastSet, .int t_found, .ref h_t_row, .ref h_t_isUsed, .ref h_t_table, .int t_rank, .long t_determinant])), (h_t_state, .inl (cI, 4, .inl t_state))] A) _ s 0 0 A = Q
  generalize hAr : List.toArray ([.ref h_t, .int v1] : List Value) = args at hts hQ ⊢
  have lp_31 : ∀ (v1 : Int32) (v2 : Int32) (v4 : Int32), ∀ (n : Nat) (v3 : Int32) (v5 : Int32) (x : Int32), on_loop (fun (s : Int32 × Int32) => B_X6_regular_31 v1 v2 v4 t_state s.1 s.2) n (v3, v5) = some x → (∀ (H : Heap) (locs : List Loc), va_P D vwCl [(h_t, .inr (6, [.ref h_t_state, .ref h_t_images, .ref h_t_isKept, .ref h_t_pad, .int t_said, .int t_leastSize, .int t_leastSet, .int t_found, .ref h_t_row, .ref h_t_isUsed, .ref h_t_table, .int t_rank, .long t_determinant])), (h_t_state, .inl (cI, 4, .inl t_state))] H → va_D A [(h_t, .inr (6, [.ref h_t_state, .ref h_t_images, .ref h_t_isKept, .ref h_t_pad, .int t_said, .int t_leastSize, .int t_leastSet, .int t_found, .ref h_t_row, .ref h_t_isUsed, .ref h_t_table, .int t_rank, .long t_determinant])), (h_t_state, .inl (cI, 4, .inl t_state))] → va_S A s.heap H locs → ∀ ls : Array Slot, lv_has ls 6 [(0, .ref h_t), (1, .int v1), (2, .int v2), (3, .int x), (4, .int v4)] → W p l e rm_X6_regular s m args below meth c H locs 0 0 Q (F0 m 72 ls [])) → ∀ (H : Heap) (locs : List Loc), va_P D vwCl [(h_t, .inr (6, [.ref h_t_state, .ref h_t_images, .ref h_t_isKept, .ref h_t_pad, .int t_said, .int t_leastSize, .int t_leastSet, .int t_found, .ref h_t_row, .ref h_t_isUsed, .ref h_t_table, .int t_rank, .long t_determinant])), (h_t_state, .inl (cI, 4, .inl t_state))] H → va_D A [(h_t, .inr (6, [.ref h_t_state, .ref h_t_images, .ref h_t_isKept, .ref h_t_pad, .int t_said, .int t_leastSize, .int t_leastSet, .int t_found, .ref h_t_row, .ref h_t_isUsed, .ref h_t_table, .int t_rank, .long t_determinant])), (h_t_state, .inl (cI, 4, .inl t_state))] → va_S A s.heap H locs → ∀ ls : Array Slot, lv_has ls 6 [(0, .ref h_t), (1, .int v1), (2, .int v2), (3, .int v3), (4, .int v4), (5, .int v5)] → W p l e rm_X6_regular s m args below meth c H locs 0 0 Q (F0 m 31 ls []) := by
    intro v1 v2 v4
    intro n
    induction n with
    | zero =>
      intro v3 v5 x hL
      exact (on_loop0 hL).elim
    | succ n ih =>
      intro v3 v5 x hL K1 H locs hP hD hS ls hl
      obtain ⟨y, hM, hk⟩ := on_loopE hL
      have hM : B_X6_regular_31 v1 v2 v4 t_state v3 v5 = some y := hM
      unfold B_X6_regular_31 at hM
      refine lv_iload hx hb dX6_regular_31 (lv_at hl 5 rfl) ?_
      refine lv_aload_n hx hb dX6_regular_33 rfl (lv_at hl 0 rfl) ?_
      obtain ⟨q_6, hq_6, hM⟩ := on_bind hM
      refine on_callV (rest := [.int v5]) (As := []) (st1 := [.int q_6, .int v5]) (C := RX6) (ci := 6) (q0 := 0) (wc := [(h_t, .inr (6, [.ref h_t_state, .ref h_t_images, .ref h_t_isKept, .ref h_t_pad, .int t_said, .int t_leastSize, .int t_leastSet, .int t_found, .ref h_t_row, .ref h_t_isUsed, .ref h_t_table, .int t_rank, .long t_determinant])), (h_t_state, .inl (cI, 4, .inl t_state))]) (wr := []) (wc' := [(h_t, .inr (6, [.ref h_t_state, .ref h_t_images, .ref h_t_isKept, .ref h_t_pad, .int t_said, .int t_leastSize, .int t_leastSet, .int t_found, .ref h_t_row, .ref h_t_isUsed, .ref h_t_table, .int t_rank, .long t_determinant])), (h_t_state, .inl (cI, 4, .inl t_state))]) (wf := [(h_t, .inr (6, [.ref h_t_state, .ref h_t_images, .ref h_t_isKept, .ref h_t_pad, .int t_said, .int t_leastSize, .int t_leastSet, .int t_found, .ref h_t_row, .ref h_t_isUsed, .ref h_t_table, .int t_rank, .long t_determinant])), (h_t_state, .inl (cI, 4, .inl t_state))]) (rt := (some (.int q_6))) ⟨hx, hb, hml, hown, hts⟩ (k_X6_many h_t h_t_state h_t_images h_t_isKept h_t_pad h_t_row h_t_isUsed h_t_table t_said t_leastSize t_leastSet t_found t_rank t_determinant t_state q_6 hq_6) (cwV 0 hts gX6_regular_X6_many rfl rfl rfl ⟨rfl, hdX6_many⟩ ⟨(Nat.le_of_ble_eq_true rfl), (Nat.le_of_ble_eq_true rfl)⟩) hK hN hP hD hS hA [0, 1] [] [0, 1] rfl rfl rfl rfl (by decide) rfl rfl rfl rfl rfl rfl hl.1 rfl (Nat.le_of_ble_eq_true rfl) rfl dX6_regular_34 ⟨Nat.zero_le _, Nat.zero_le _⟩ (fun H locs hP hD hS => ?_)
      refine lv_icmp_ge (tgt := 72) hx hb dX6_regular_37 (by decide) (fun c_7 => ?_) (fun c_7 => ?_)
      · have hM := on_pos c_7 hM
        have hk := on_nxR hM hk
        subst hk
        exact K1 _ _ hP hD hS ls (lv_sub hl [0, 1, 2, 3, 4] rfl)
      · have hM := on_neg c_7 hM
        refine lv_iload_n hx hb dX6_regular_40 rfl (lv_at hl 3 rfl) ?_
        refine lv_if_eq (tgt := 64) hx hb dX6_regular_41 (by decide) (fun c_8 => ?_) (fun c_8 => ?_)
        · have hM := on_pos c_8 hM
          refine lv_iconst (v := 0) hx hb dX6_regular_64 (by decide) ?_
          refine lv_istore_n (lv' := [(3, .int (0 : Int32)), (0, .ref h_t), (1, .int v1), (2, .int v2), (4, .int v4), (5, .int v5)]) hx hb dX6_regular_65 rfl hl (by decide) rfl (fun ls hl => ?_)
          obtain ⟨v5_9, ev5_9⟩ : ∃ z : Int32, z = v5 + 1 := ⟨_, rfl⟩
          have hM := on_letE ev5_9 hM
          refine lv_iinc (v := v5_9) (lv' := [(5, .int v5_9), (3, .int (0 : Int32)), (0, .ref h_t), (1, .int v1), (2, .int v2), (4, .int v4)]) hx hb dX6_regular_66 hl (k := 5) rfl (by rw [ev5_9]; rfl) (by decide) rfl (fun ls hl => ?_)
          refine lv_goto (tgt := 31) hx hb dX6_regular_69 (by decide) ?_
          have hk := on_nxL hM hk
          exact ih (0 : Int32) v5_9 _ hk K1 _ _ hP hD hS ls (lv_sub hl [2, 3, 4, 1, 5, 0] rfl)
        · have hM := on_neg c_8 hM
          refine lv_aload_n hx hb dX6_regular_44 rfl (lv_at hl 0 rfl) ?_
          obtain ⟨q_10, hq_10, hM⟩ := on_bind hM
          refine on_callV (rest := []) (As := []) (st1 := [.int q_10]) (C := RX6) (ci := 6) (q0 := 0) (wc := [(h_t, .inr (6, [.ref h_t_state, .ref h_t_images, .ref h_t_isKept, .ref h_t_pad, .int t_said, .int t_leastSize, .int t_leastSet, .int t_found, .ref h_t_row, .ref h_t_isUsed, .ref h_t_table, .int t_rank, .long t_determinant])), (h_t_state, .inl (cI, 4, .inl t_state))]) (wr := []) (wc' := [(h_t, .inr (6, [.ref h_t_state, .ref h_t_images, .ref h_t_isKept, .ref h_t_pad, .int t_said, .int t_leastSize, .int t_leastSet, .int t_found, .ref h_t_row, .ref h_t_isUsed, .ref h_t_table, .int t_rank, .long t_determinant])), (h_t_state, .inl (cI, 4, .inl t_state))]) (wf := [(h_t, .inr (6, [.ref h_t_state, .ref h_t_images, .ref h_t_isKept, .ref h_t_pad, .int t_said, .int t_leastSize, .int t_leastSet, .int t_found, .ref h_t_row, .ref h_t_isUsed, .ref h_t_table, .int t_rank, .long t_determinant])), (h_t_state, .inl (cI, 4, .inl t_state))]) (rt := (some (.int q_10))) ⟨hx, hb, hml, hown, hts⟩ (k_X6_many h_t h_t_state h_t_images h_t_isKept h_t_pad h_t_row h_t_isUsed h_t_table t_said t_leastSize t_leastSet t_found t_rank t_determinant t_state q_10 hq_10) (cwV 0 hts gX6_regular_X6_many rfl rfl rfl ⟨rfl, hdX6_many⟩ ⟨(Nat.le_of_ble_eq_true rfl), (Nat.le_of_ble_eq_true rfl)⟩) hK hN hP hD hS hA [0, 1] [] [0, 1] rfl rfl rfl rfl (by decide) rfl rfl rfl rfl rfl rfl hl.1 rfl (Nat.le_of_ble_eq_true rfl) rfl dX6_regular_45 ⟨Nat.zero_le _, Nat.zero_le _⟩ (fun H locs hP hD hS => ?_)
          refine lv_iload_n hx hb dX6_regular_48 rfl (lv_at hl 1 rfl) ?_
          refine lv_iload hx hb dX6_regular_49 (lv_at hl 4 rfl) ?_
          refine lv_iload hx hb dX6_regular_51 (lv_at hl 5 rfl) ?_
          obtain ⟨q_11, hq_11, hM⟩ := on_bind hM
          refine on_callS0 (rest := []) (As := [.int q_10, .int v1, .int v4, .int v5]) (st1 := [.int q_11]) ⟨hx, hb, hml, hown, hts⟩ (k_X6_oddOfPair q_10 v1 v4 v5 q_11 hq_11) (va_cwS 4 hts gX6_regular_X6_oddOfPair rfl rfl rfl hdX6_oddOfPair ⟨(Nat.le_of_ble_eq_true rfl), (Nat.le_of_ble_eq_true rfl)⟩) hK hN hP hD hS hA rfl hl.1 rfl (Nat.le_of_ble_eq_true rfl) rfl dX6_regular_53 ⟨Nat.zero_le _, Nat.zero_le _⟩ (fun H locs hP hS => ?_)
          refine lv_iload_n hx hb dX6_regular_56 rfl (lv_at hl 2 rfl) ?_
          refine lv_icmp_ne (tgt := 64) hx hb dX6_regular_57 (by decide) (fun c_12 => ?_) (fun c_12 => ?_)
          · have hM := on_neg c_12 hM
            refine lv_iconst (v := 0) hx hb dX6_regular_64 (by decide) ?_
            refine lv_istore_n (lv' := [(3, .int (0 : Int32)), (0, .ref h_t), (1, .int v1), (2, .int v2), (4, .int v4), (5, .int v5)]) hx hb dX6_regular_65 rfl hl (by decide) rfl (fun ls hl => ?_)
            obtain ⟨v5_13, ev5_13⟩ : ∃ z : Int32, z = v5 + 1 := ⟨_, rfl⟩
            have hM := on_letE ev5_13 hM
            refine lv_iinc (v := v5_13) (lv' := [(5, .int v5_13), (3, .int (0 : Int32)), (0, .ref h_t), (1, .int v1), (2, .int v2), (4, .int v4)]) hx hb dX6_regular_66 hl (k := 5) rfl (by rw [ev5_13]; rfl) (by decide) rfl (fun ls hl => ?_)
            refine lv_goto (tgt := 31) hx hb dX6_regular_69 (by decide) ?_
            have hk := on_nxL hM hk
            exact ih (0 : Int32) v5_13 _ hk K1 _ _ hP hD hS ls (lv_sub hl [2, 3, 4, 1, 5, 0] rfl)
          · have hM := on_pos c_12 hM
            refine lv_iconst (v := 1) hx hb dX6_regular_60 (by decide) ?_
            refine lv_goto (tgt := 65) hx hb dX6_regular_61 (by decide) ?_
            refine lv_istore_n (lv' := [(3, .int (1 : Int32)), (0, .ref h_t), (1, .int v1), (2, .int v2), (4, .int v4), (5, .int v5)]) hx hb dX6_regular_65 rfl hl (by decide) rfl (fun ls hl => ?_)
            obtain ⟨v5_14, ev5_14⟩ : ∃ z : Int32, z = v5 + 1 := ⟨_, rfl⟩
            have hM := on_letE ev5_14 hM
            refine lv_iinc (v := v5_14) (lv' := [(5, .int v5_14), (3, .int (1 : Int32)), (0, .ref h_t), (1, .int v1), (2, .int v2), (4, .int v4)]) hx hb dX6_regular_66 hl (k := 5) rfl (by rw [ev5_14]; rfl) (by decide) rfl (fun ls hl => ?_)
            refine lv_goto (tgt := 31) hx hb dX6_regular_69 (by decide) ?_
            have hk := on_nxL hM hk
            exact ih (1 : Int32) v5_14 _ hk K1 _ _ hP hD hS ls (lv_sub hl [2, 3, 4, 1, 5, 0] rfl)
  have lp_16 : ∀ (v1 : Int32) (v2 : Int32), ∀ (n : Nat) (v3 : Int32) (v4 : Int32) (x : Int32), on_loop (fun (s : Int32 × Int32) => B_X6_regular_16 v1 v2 t_state s.1 s.2) n (v3, v4) = some x → (∀ (H : Heap) (locs : List Loc), va_P D vwCl [(h_t, .inr (6, [.ref h_t_state, .ref h_t_images, .ref h_t_isKept, .ref h_t_pad, .int t_said, .int t_leastSize, .int t_leastSet, .int t_found, .ref h_t_row, .ref h_t_isUsed, .ref h_t_table, .int t_rank, .long t_determinant])), (h_t_state, .inl (cI, 4, .inl t_state))] H → va_D A [(h_t, .inr (6, [.ref h_t_state, .ref h_t_images, .ref h_t_isKept, .ref h_t_pad, .int t_said, .int t_leastSize, .int t_leastSet, .int t_found, .ref h_t_row, .ref h_t_isUsed, .ref h_t_table, .int t_rank, .long t_determinant])), (h_t_state, .inl (cI, 4, .inl t_state))] → va_S A s.heap H locs → ∀ ls : Array Slot, lv_has ls 6 [(2, .int v2), (3, .int x)] → W p l e rm_X6_regular s m args below meth c H locs 0 0 Q (F0 m 78 ls [])) → ∀ (H : Heap) (locs : List Loc), va_P D vwCl [(h_t, .inr (6, [.ref h_t_state, .ref h_t_images, .ref h_t_isKept, .ref h_t_pad, .int t_said, .int t_leastSize, .int t_leastSet, .int t_found, .ref h_t_row, .ref h_t_isUsed, .ref h_t_table, .int t_rank, .long t_determinant])), (h_t_state, .inl (cI, 4, .inl t_state))] H → va_D A [(h_t, .inr (6, [.ref h_t_state, .ref h_t_images, .ref h_t_isKept, .ref h_t_pad, .int t_said, .int t_leastSize, .int t_leastSet, .int t_found, .ref h_t_row, .ref h_t_isUsed, .ref h_t_table, .int t_rank, .long t_determinant])), (h_t_state, .inl (cI, 4, .inl t_state))] → va_S A s.heap H locs → ∀ ls : Array Slot, lv_has ls 6 [(0, .ref h_t), (1, .int v1), (2, .int v2), (3, .int v3), (4, .int v4)] → W p l e rm_X6_regular s m args below meth c H locs 0 0 Q (F0 m 16 ls []) := by
    intro v1 v2
    intro n
    induction n with
    | zero =>
      intro v3 v4 x hL
      exact (on_loop0 hL).elim
    | succ n ih =>
      intro v3 v4 x hL K1 H locs hP hD hS ls hl
      obtain ⟨y, hM, hk⟩ := on_loopE hL
      have hM : B_X6_regular_16 v1 v2 t_state v3 v4 = some y := hM
      unfold B_X6_regular_16 at hM
      refine lv_iload hx hb dX6_regular_16 (lv_at hl 4 rfl) ?_
      refine lv_aload_n hx hb dX6_regular_18 rfl (lv_at hl 0 rfl) ?_
      obtain ⟨q_3, hq_3, hM⟩ := on_bind hM
      refine on_callV (rest := [.int v4]) (As := []) (st1 := [.int q_3, .int v4]) (C := RX6) (ci := 6) (q0 := 0) (wc := [(h_t, .inr (6, [.ref h_t_state, .ref h_t_images, .ref h_t_isKept, .ref h_t_pad, .int t_said, .int t_leastSize, .int t_leastSet, .int t_found, .ref h_t_row, .ref h_t_isUsed, .ref h_t_table, .int t_rank, .long t_determinant])), (h_t_state, .inl (cI, 4, .inl t_state))]) (wr := []) (wc' := [(h_t, .inr (6, [.ref h_t_state, .ref h_t_images, .ref h_t_isKept, .ref h_t_pad, .int t_said, .int t_leastSize, .int t_leastSet, .int t_found, .ref h_t_row, .ref h_t_isUsed, .ref h_t_table, .int t_rank, .long t_determinant])), (h_t_state, .inl (cI, 4, .inl t_state))]) (wf := [(h_t, .inr (6, [.ref h_t_state, .ref h_t_images, .ref h_t_isKept, .ref h_t_pad, .int t_said, .int t_leastSize, .int t_leastSet, .int t_found, .ref h_t_row, .ref h_t_isUsed, .ref h_t_table, .int t_rank, .long t_determinant])), (h_t_state, .inl (cI, 4, .inl t_state))]) (rt := (some (.int q_3))) ⟨hx, hb, hml, hown, hts⟩ (k_X6_many h_t h_t_state h_t_images h_t_isKept h_t_pad h_t_row h_t_isUsed h_t_table t_said t_leastSize t_leastSet t_found t_rank t_determinant t_state q_3 hq_3) (cwV 0 hts gX6_regular_X6_many rfl rfl rfl ⟨rfl, hdX6_many⟩ ⟨(Nat.le_of_ble_eq_true rfl), (Nat.le_of_ble_eq_true rfl)⟩) hK hN hP hD hS hA [0, 1] [] [0, 1] rfl rfl rfl rfl (by decide) rfl rfl rfl rfl rfl rfl hl.1 rfl (Nat.le_of_ble_eq_true rfl) rfl dX6_regular_19 ⟨Nat.zero_le _, Nat.zero_le _⟩ (fun H locs hP hD hS => ?_)
      refine lv_icmp_ge (tgt := 78) hx hb dX6_regular_22 (by decide) (fun c_4 => ?_) (fun c_4 => ?_)
      · have hM := on_pos c_4 hM
        have hk := on_nxR hM hk
        subst hk
        exact K1 _ _ hP hD hS ls (lv_sub hl [2, 3] rfl)
      · have hM := on_neg c_4 hM
        refine lv_iload hx hb dX6_regular_25 (lv_at hl 4 rfl) ?_
        refine lv_iconst (v := 1) hx hb dX6_regular_27 (by decide) ?_
        refine lv_iadd hx hb dX6_regular_28 ?_
        refine lv_topi (fun v5_5 ev5_5 => ?_)
        have hM := on_letE ev5_5 hM
        refine lv_istore (lv' := [(5, .int v5_5), (0, .ref h_t), (1, .int v1), (2, .int v2), (3, .int v3), (4, .int v4)]) hx hb dX6_regular_29 hl (by decide) rfl (fun ls hl => ?_)
        obtain ⟨q_15, hq_15, hM⟩ := on_bind hM
        refine lp_31 v1 v2 v4 on_F v3 v5_5 q_15 hq_15 (fun H locs hP hD hS ls hl => ?_) H locs hP hD hS ls (lv_sub hl [1, 2, 3, 4, 5, 0] rfl)
        obtain ⟨v4_16, ev4_16⟩ : ∃ z : Int32, z = v4 + 1 := ⟨_, rfl⟩
        have hM := on_letE ev4_16 hM
        refine lv_iinc (v := v4_16) (lv' := [(4, .int v4_16), (0, .ref h_t), (1, .int v1), (2, .int v2), (3, .int q_15)]) hx hb dX6_regular_72 hl (k := 4) rfl (by rw [ev4_16]; rfl) (by decide) rfl (fun ls hl => ?_)
        refine lv_goto (tgt := 16) hx hb dX6_regular_75 (by decide) ?_
        have hk := on_nxL hM hk
        exact ih q_15 v4_16 _ hk K1 _ _ hP hD hS ls (lv_sub hl [1, 2, 3, 4, 0] rfl)
  refine lv_aload_n hx hb dX6_regular_0 rfl (lv_at hl 0 rfl) ?_
  obtain ⟨q_1, hq_1, hM⟩ := on_bind hM
  refine on_callV (rest := []) (As := []) (st1 := [.int q_1]) (C := RX6) (ci := 6) (q0 := 0) (wc := [(h_t, .inr (6, [.ref h_t_state, .ref h_t_images, .ref h_t_isKept, .ref h_t_pad, .int t_said, .int t_leastSize, .int t_leastSet, .int t_found, .ref h_t_row, .ref h_t_isUsed, .ref h_t_table, .int t_rank, .long t_determinant])), (h_t_state, .inl (cI, 4, .inl t_state))]) (wr := []) (wc' := [(h_t, .inr (6, [.ref h_t_state, .ref h_t_images, .ref h_t_isKept, .ref h_t_pad, .int t_said, .int t_leastSize, .int t_leastSet, .int t_found, .ref h_t_row, .ref h_t_isUsed, .ref h_t_table, .int t_rank, .long t_determinant])), (h_t_state, .inl (cI, 4, .inl t_state))]) (wf := [(h_t, .inr (6, [.ref h_t_state, .ref h_t_images, .ref h_t_isKept, .ref h_t_pad, .int t_said, .int t_leastSize, .int t_leastSet, .int t_found, .ref h_t_row, .ref h_t_isUsed, .ref h_t_table, .int t_rank, .long t_determinant])), (h_t_state, .inl (cI, 4, .inl t_state))]) (rt := (some (.int q_1))) ⟨hx, hb, hml, hown, hts⟩ (k_X6_many h_t h_t_state h_t_images h_t_isKept h_t_pad h_t_row h_t_isUsed h_t_table t_said t_leastSize t_leastSet t_found t_rank t_determinant t_state q_1 hq_1) (cwV 0 hts gX6_regular_X6_many rfl rfl rfl ⟨rfl, hdX6_many⟩ ⟨(Nat.le_of_ble_eq_true rfl), (Nat.le_of_ble_eq_true rfl)⟩) hK hN hP hD hS hA [0, 1] [] [0, 1] rfl rfl rfl rfl (by decide) rfl rfl rfl rfl rfl rfl hl.1 rfl (Nat.le_of_ble_eq_true rfl) rfl dX6_regular_1 ⟨Nat.zero_le _, Nat.zero_le _⟩ (fun H locs hP hD hS => ?_)
  refine lv_iload_n hx hb dX6_regular_4 rfl (lv_at hl 1 rfl) ?_
  refine lv_iconst (v := 0) hx hb dX6_regular_5 (by decide) ?_
  refine lv_iconst (v := 1) hx hb dX6_regular_6 (by decide) ?_
  obtain ⟨q_2, hq_2, hM⟩ := on_bind hM
  refine on_callS0 (rest := []) (As := [.int q_1, .int v1, .int (0 : Int32), .int (1 : Int32)]) (st1 := [.int q_2]) ⟨hx, hb, hml, hown, hts⟩ (k_X6_oddOfPair q_1 v1 (0 : Int32) (1 : Int32) q_2 hq_2) (va_cwS 4 hts gX6_regular_X6_oddOfPair rfl rfl rfl hdX6_oddOfPair ⟨(Nat.le_of_ble_eq_true rfl), (Nat.le_of_ble_eq_true rfl)⟩) hK hN hP hD hS hA rfl hl.1 rfl (Nat.le_of_ble_eq_true rfl) rfl dX6_regular_7 ⟨Nat.zero_le _, Nat.zero_le _⟩ (fun H locs hP hS => ?_)
  refine lv_istore_n (lv' := [(2, .int q_2), (0, .ref h_t), (1, .int v1)]) hx hb dX6_regular_10 rfl hl (by decide) rfl (fun ls hl => ?_)
  refine lv_iconst (v := 1) hx hb dX6_regular_11 (by decide) ?_
  refine lv_istore_n (lv' := [(3, .int (1 : Int32)), (2, .int q_2), (0, .ref h_t), (1, .int v1)]) hx hb dX6_regular_12 rfl hl (by decide) rfl (fun ls hl => ?_)
  refine lv_iconst (v := 0) hx hb dX6_regular_13 (by decide) ?_
  refine lv_istore (lv' := [(4, .int (0 : Int32)), (3, .int (1 : Int32)), (2, .int q_2), (0, .ref h_t), (1, .int v1)]) hx hb dX6_regular_14 hl (by decide) rfl (fun ls hl => ?_)
  obtain ⟨q_17, hq_17, hM⟩ := on_bind hM
  refine lp_16 v1 q_2 on_F (1 : Int32) (0 : Int32) q_17 hq_17 (fun H locs hP hD hS ls hl => ?_) H locs hP hD hS ls (lv_sub hl [3, 4, 2, 1, 0] rfl)
  refine lv_iload_n hx hb dX6_regular_78 rfl (lv_at hl 1 rfl) ?_
  refine lv_if_eq (tgt := 86) hx hb dX6_regular_79 (by decide) (fun c_18 => ?_) (fun c_18 => ?_)
  · have hM := on_pos c_18 hM
    refine lv_bipush (v := -6) hx hb dX6_regular_86 (by decide) ?_
    have hM := Option.some.inj hM
    subst hM
    rw [← hQ]
    exact on_iret hx hb hr hlk hP hD hS dX6_regular_88
  · have hM := on_neg c_18 hM
    refine lv_iload_n hx hb dX6_regular_82 rfl (lv_at hl 0 rfl) ?_
    refine lv_goto (tgt := 88) hx hb dX6_regular_83 (by decide) ?_
    have hM := Option.some.inj hM
    subst hM
    rw [← hQ]
    exact on_iret hx hb hr hlk hP hD hS dX6_regular_88
