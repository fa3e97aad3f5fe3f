abbrev rm_X6_renumbered : Room := { frames := 3, cells := 0, slots := 0, locals := 68 }
set_option maxHeartbeats 4000000 in
set_option maxRecDepth 100000 in
theorem k_X6_renumbered {l : Launch} {D : va_G} {cI cJ cZ cS cA : ClassId} (h_t : Nat) (h_t_state : Nat) (h_t_images : Nat) (h_t_isKept : Nat) (h_t_pad : Nat) (h_t_row : Nat) (h_t_isUsed : Nat) (h_t_table : Nat) (t_said : Int32) (t_leastSize : Int32) (t_leastSet : Int32) (t_found : Int32) (t_rank : Int32) (t_determinant : Int64) (t_row : Nat → Int32) (v1 : Int32) (v2 : Int32) (out : Int32) (hM : M_X6_renumbered v1 v2 t_row = some out) : on_Con l yX6_renumbered wsX6_renumbered rm_X6_renumbered [.ref h_t, .int v1, .int v2] D (on_T cI cJ cZ cS cA) [(h_t, .inr (6, [.ref h_t_state, .ref h_t_images, .ref h_t_isKept, .ref h_t_pad, .int t_said, .int t_leastSize, .int t_leastSet, .int t_found, .ref h_t_row, .ref h_t_isUsed, .ref h_t_table, .int t_rank, .long t_determinant])), (h_t_row, .inl (cI, 7, .inl t_row))] (some (.int out)) [(h_t, .inr (6, [.ref h_t_state, .ref h_t_images, .ref h_t_isKept, .ref h_t_pad, .int t_said, .int t_leastSize, .int t_leastSet, .int t_found, .ref h_t_row, .ref h_t_isUsed, .ref h_t_table, .int t_rank, .long t_determinant])), (h_t_row, .inl (cI, 7, .inl t_row))] := by
  unfold M_X6_renumbered at hM
  refine on_enter (cc := cX6_renumbered) (nL := 6) (rt := (some .int)) (own := RX6) (by decide +kernel) rfl rfl (Nat.le_of_ble_eq_true rfl) ?_
  intro p e s m below meth c A ls hx hb hml hr hlk hts hown hA hK hN H locs hP hD hS hl
  have hl : lv_has ls 6 [(0, .ref h_t), (1, .int v1), (2, .int v2)] := hl
  generalize hQ : MQ below (on_Q D (some (.int out)) [(h_t, .inr (6, [.ref h_t_state, .ref h_t_images, .ref h_t_isKept, .ref h_t_pad, .int t_said, .int t_leastSize, .int t_leastSet, .int t_found, .ref h_t_row, .ref h_t_isUsed, .ref h_t_table, .int t_rank, .long t_determinant])), (h_t_row, .inl (cI, 7, .inl t_row))] A) _ s 0 0 A = Q
  generalize hAr : List.toArray ([.ref h_t, .int v1, .int v2] : List Value) = args at hts hQ ⊢
  have w1 := hts (.fieldLink RX6 23 "OddNetsModel" "row" "[I") (by decide +kernel)
  have w2 : ∀ w ∈ wsX60, w ∈ wsX6_renumbered := by decide +kernel
  have lp_17 : ∀ (v1 : Int32) (v2 : Int32) (v4 : Int32), ∀ (n : Nat) (v3 : Int32) (v5 : Int32) (x : Int32), on_loop (fun (s : Int32 × Int32) => B_X6_renumbered_17 v1 v2 v4 t_row s.1 s.2) n (v3, v5) = some x → (∀ (H : Heap) (locs : List Loc), va_P D vwCl [(h_t, .inr (6, [.ref h_t_state, .ref h_t_images, .ref h_t_isKept, .ref h_t_pad, .int t_said, .int t_leastSize, .int t_leastSet, .int t_found, .ref h_t_row, .ref h_t_isUsed, .ref h_t_table, .int t_rank, .long t_determinant])), (h_t_row, .inl (cI, 7, .inl t_row))] H → va_D A [(h_t, .inr (6, [.ref h_t_state, .ref h_t_images, .ref h_t_isKept, .ref h_t_pad, .int t_said, .int t_leastSize, .int t_leastSet, .int t_found, .ref h_t_row, .ref h_t_isUsed, .ref h_t_table, .int t_rank, .long t_determinant])), (h_t_row, .inl (cI, 7, .inl t_row))] → va_S A s.heap H locs → ∀ ls : Array Slot, lv_has ls 6 [(0, .ref h_t), (1, .int v1), (2, .int v2), (3, .int x), (4, .int v4)] → W p l e rm_X6_renumbered s m args below meth c H locs 0 0 Q (F0 m 67 ls [])) → ∀ (H : Heap) (locs : List Loc), va_P D vwCl [(h_t, .inr (6, [.ref h_t_state, .ref h_t_images, .ref h_t_isKept, .ref h_t_pad, .int t_said, .int t_leastSize, .int t_leastSet, .int t_found, .ref h_t_row, .ref h_t_isUsed, .ref h_t_table, .int t_rank, .long t_determinant])), (h_t_row, .inl (cI, 7, .inl t_row))] H → va_D A [(h_t, .inr (6, [.ref h_t_state, .ref h_t_images, .ref h_t_isKept, .ref h_t_pad, .int t_said, .int t_leastSize, .int t_leastSet, .int t_found, .ref h_t_row, .ref h_t_isUsed, .ref h_t_table, .int t_rank, .long t_determinant])), (h_t_row, .inl (cI, 7, .inl t_row))] → va_S A s.heap H locs → ∀ ls : Array Slot, lv_has ls 6 [(0, .ref h_t), (1, .int v1), (2, .int v2), (3, .int v3), (4, .int v4), (5, .int v5)] → W p l e rm_X6_renumbered s m args below meth c H locs 0 0 Q (F0 m 17 ls []) := by
    intro v1 v2 v4
    intro n
    induction n with
    | zero =>
      intro v3 v5 x hL
      exact (on_loop0 hL).elim
    | succ n ih =>
      intro v3 v5 x hL K1 H locs hP hD hS ls hl
      obtain ⟨y, hM, hk⟩ := on_loopE hL
      have hM : B_X6_renumbered_17 v1 v2 v4 t_row v3 v5 = some y := hM
      unfold B_X6_renumbered_17 at hM
      refine lv_iload hx hb dX6_renumbered_17 (lv_at hl 5 rfl) ?_
      refine lv_iload_n hx hb dX6_renumbered_19 rfl (lv_at hl 1 rfl) ?_
      refine lv_icmp_ge (tgt := 67) hx hb dX6_renumbered_20 (by decide) (fun c_3 => ?_) (fun c_3 => ?_)
      · have hM := on_pos c_3 hM
        have hk := on_nxR hM hk
        subst hk
        exact K1 _ _ hP hD hS ls (lv_sub hl [0, 1, 2, 3, 4] rfl)
      · have hM := on_neg c_3 hM
        refine lv_iload_n hx hb dX6_renumbered_23 rfl (lv_at hl 3 rfl) ?_
        refine lv_iload_n hx hb dX6_renumbered_24 rfl (lv_at hl 1 rfl) ?_
        refine lv_iload_n hx hb dX6_renumbered_25 rfl (lv_at hl 2 rfl) ?_
        refine lv_iload hx hb dX6_renumbered_26 (lv_at hl 4 rfl) ?_
        refine lv_iload hx hb dX6_renumbered_28 (lv_at hl 5 rfl) ?_
        obtain ⟨q_4, hq_4, hM⟩ := on_bind hM
        refine on_callS0 (rest := [.int v3]) (As := [.int v1, .int v2, .int v4, .int v5]) (st1 := [.int q_4, .int v3]) ⟨hx, hb, hml, hown, hts⟩ (k_X6_joined v1 v2 v4 v5 q_4 hq_4) (va_cwS 4 hts gX6_renumbered_X6_joined rfl rfl rfl hdX6_joined ⟨(Nat.le_of_ble_eq_true rfl), (Nat.le_of_ble_eq_true rfl)⟩) hK hN hP hD hS hA rfl hl.1 rfl (Nat.le_of_ble_eq_true rfl) rfl dX6_renumbered_30 ⟨Nat.zero_le _, Nat.zero_le _⟩ (fun H locs hP hS => ?_)
        refine lv_iconst (v := 1) hx hb dX6_renumbered_33 (by decide) ?_
        refine lv_icmp_ne (tgt := 58) hx hb dX6_renumbered_34 (by decide) (fun c_5 => ?_) (fun c_5 => ?_)
        · have hM := on_neg c_5 hM
          refine lv_iconst (v := 0) hx hb dX6_renumbered_58 (by decide) ?_
          refine lv_ior hx hb dX6_renumbered_59 ?_
          refine lv_topi (fun v3_6 ev3_6 => ?_)
          have hM := on_letE ev3_6 hM
          refine lv_istore_n (lv' := [(3, .int v3_6), (0, .ref h_t), (1, .int v1), (2, .int v2), (4, .int v4), (5, .int v5)]) hx hb dX6_renumbered_60 rfl hl (by decide) rfl (fun ls hl => ?_)
          obtain ⟨v5_7, ev5_7⟩ : ∃ z : Int32, z = v5 + 1 := ⟨_, rfl⟩
          have hM := on_letE ev5_7 hM
          refine lv_iinc (v := v5_7) (lv' := [(5, .int v5_7), (3, .int v3_6), (0, .ref h_t), (1, .int v1), (2, .int v2), (4, .int v4)]) hx hb dX6_renumbered_61 hl (k := 5) rfl (by rw [ev5_7]; rfl) (by decide) rfl (fun ls hl => ?_)
          refine lv_goto (tgt := 17) hx hb dX6_renumbered_64 (by decide) ?_
          have hk := on_nxL hM hk
          exact ih v3_6 v5_7 _ hk K1 _ _ hP hD hS ls (lv_sub hl [2, 3, 4, 1, 5, 0] rfl)
        · have hM := on_pos c_5 hM
          refine lv_iload_n hx hb dX6_renumbered_37 rfl (lv_at hl 1 rfl) ?_
          refine lv_aload_n hx hb dX6_renumbered_38 rfl (lv_at hl 0 rfl) ?_
          refine va_get (D := D) (ci := 6) (v := .ref h_t_row) (C := RX6) (T := TX6) (N := 13) hx hb hts w2 hown hK hP 0 rfl rfl 8 (by decide) w1 (fun _ h9 => h9) rfl dX6_renumbered_39 ?_
          refine lv_iload hx hb dX6_renumbered_42 (lv_at hl 4 rfl) ?_
          obtain ⟨g_8, hM⟩ := on_gdE hM
          refine va_iald hx hb hK hP 1 0 rfl rfl (on_ixE g_8) dX6_renumbered_44 ?_
          refine lv_aload_n hx hb dX6_renumbered_45 rfl (lv_at hl 0 rfl) ?_
          refine va_get (D := D) (ci := 6) (v := .ref h_t_row) (C := RX6) (T := TX6) (N := 13) hx hb hts w2 hown hK hP 0 rfl rfl 8 (by decide) w1 (fun _ h9 => h9) rfl dX6_renumbered_46 ?_
          refine lv_iload hx hb dX6_renumbered_49 (lv_at hl 5 rfl) ?_
          obtain ⟨g_9, hM⟩ := on_gdE hM
          refine va_iald hx hb hK hP 1 0 rfl rfl (on_ixE g_9) dX6_renumbered_51 ?_
          obtain ⟨q_10, hq_10, hM⟩ := on_bind hM
          refine on_callS0 (rest := [.int v3]) (As := [.int v1, .int (t_row (Int32.toNatClampNeg v4)), .int (t_row (Int32.toNatClampNeg v5))]) (st1 := [.int q_10, .int v3]) ⟨hx, hb, hml, hown, hts⟩ (k_X6_valueOf v1 (t_row (Int32.toNatClampNeg v4)) (t_row (Int32.toNatClampNeg v5)) q_10 hq_10) (va_cwS 3 hts gX6_renumbered_X6_valueOf rfl rfl rfl hdX6_valueOf ⟨(Nat.le_of_ble_eq_true rfl), (Nat.le_of_ble_eq_true rfl)⟩) hK hN hP hD hS hA rfl hl.1 rfl (Nat.le_of_ble_eq_true rfl) rfl dX6_renumbered_52 ⟨Nat.zero_le _, Nat.zero_le _⟩ (fun H locs hP hS => ?_)
          refine lv_goto (tgt := 59) hx hb dX6_renumbered_55 (by decide) ?_
          refine lv_ior hx hb dX6_renumbered_59 ?_
          refine lv_topi (fun v3_11 ev3_11 => ?_)
          have hM := on_letE ev3_11 hM
          refine lv_istore_n (lv' := [(3, .int v3_11), (0, .ref h_t), (1, .int v1), (2, .int v2), (4, .int v4), (5, .int v5)]) hx hb dX6_renumbered_60 rfl hl (by decide) rfl (fun ls hl => ?_)
          obtain ⟨v5_12, ev5_12⟩ : ∃ z : Int32, z = v5 + 1 := ⟨_, rfl⟩
          have hM := on_letE ev5_12 hM
          refine lv_iinc (v := v5_12) (lv' := [(5, .int v5_12), (3, .int v3_11), (0, .ref h_t), (1, .int v1), (2, .int v2), (4, .int v4)]) hx hb dX6_renumbered_61 hl (k := 5) rfl (by rw [ev5_12]; rfl) (by decide) rfl (fun ls hl => ?_)
          refine lv_goto (tgt := 17) hx hb dX6_renumbered_64 (by decide) ?_
          have hk := on_nxL hM hk
          exact ih v3_11 v5_12 _ hk K1 _ _ hP hD hS ls (lv_sub hl [2, 3, 4, 1, 5, 0] rfl)
  have lp_5 : ∀ (v1 : Int32) (v2 : Int32), ∀ (n : Nat) (v3 : Int32) (v4 : Int32) (x : Int32), on_loop (fun (s : Int32 × Int32) => B_X6_renumbered_5 v1 v2 t_row s.1 s.2) n (v3, v4) = some x → (∀ (H : Heap) (locs : List Loc), va_P D vwCl [(h_t, .inr (6, [.ref h_t_state, .ref h_t_images, .ref h_t_isKept, .ref h_t_pad, .int t_said, .int t_leastSize, .int t_leastSet, .int t_found, .ref h_t_row, .ref h_t_isUsed, .ref h_t_table, .int t_rank, .long t_determinant])), (h_t_row, .inl (cI, 7, .inl t_row))] H → va_D A [(h_t, .inr (6, [.ref h_t_state, .ref h_t_images, .ref h_t_isKept, .ref h_t_pad, .int t_said, .int t_leastSize, .int t_leastSet, .int t_found, .ref h_t_row, .ref h_t_isUsed, .ref h_t_table, .int t_rank, .long t_determinant])), (h_t_row, .inl (cI, 7, .inl t_row))] → va_S A s.heap H locs → ∀ ls : Array Slot, lv_has ls 6 [(3, .int x)] → W p l e rm_X6_renumbered s m args below meth c H locs 0 0 Q (F0 m 73 ls [])) → ∀ (H : Heap) (locs : List Loc), va_P D vwCl [(h_t, .inr (6, [.ref h_t_state, .ref h_t_images, .ref h_t_isKept, .ref h_t_pad, .int t_said, .int t_leastSize, .int t_leastSet, .int t_found, .ref h_t_row, .ref h_t_isUsed, .ref h_t_table, .int t_rank, .long t_determinant])), (h_t_row, .inl (cI, 7, .inl t_row))] H → va_D A [(h_t, .inr (6, [.ref h_t_state, .ref h_t_images, .ref h_t_isKept, .ref h_t_pad, .int t_said, .int t_leastSize, .int t_leastSet, .int t_found, .ref h_t_row, .ref h_t_isUsed, .ref h_t_table, .int t_rank, .long t_determinant])), (h_t_row, .inl (cI, 7, .inl t_row))] → va_S A s.heap H locs → ∀ ls : Array Slot, lv_has ls 6 [(0, .ref h_t), (1, .int v1), (2, .int v2), (3, .int v3), (4, .int v4)] → W p l e rm_X6_renumbered s m args below meth c H locs 0 0 Q (F0 m 5 ls []) := by
    intro v1 v2
    intro n
    induction n with
    | zero =>
      intro v3 v4 x hL
      exact (on_loop0 hL).elim
    | succ n ih =>
      intro v3 v4 x hL K1 H locs hP hD hS ls hl
      obtain ⟨y, hM, hk⟩ := on_loopE hL
      have hM : B_X6_renumbered_5 v1 v2 t_row v3 v4 = some y := hM
      unfold B_X6_renumbered_5 at hM
      refine lv_iload hx hb dX6_renumbered_5 (lv_at hl 4 rfl) ?_
      refine lv_iload_n hx hb dX6_renumbered_7 rfl (lv_at hl 1 rfl) ?_
      refine lv_icmp_ge (tgt := 73) hx hb dX6_renumbered_8 (by decide) (fun c_1 => ?_) (fun c_1 => ?_)
      · have hM := on_pos c_1 hM
        have hk := on_nxR hM hk
        subst hk
        exact K1 _ _ hP hD hS ls (lv_sub hl [3] rfl)
      · have hM := on_neg c_1 hM
        refine lv_iload hx hb dX6_renumbered_11 (lv_at hl 4 rfl) ?_
        refine lv_iconst (v := 1) hx hb dX6_renumbered_13 (by decide) ?_
        refine lv_iadd hx hb dX6_renumbered_14 ?_
        refine lv_topi (fun v5_2 ev5_2 => ?_)
        have hM := on_letE ev5_2 hM
        refine lv_istore (lv' := [(5, .int v5_2), (0, .ref h_t), (1, .int v1), (2, .int v2), (3, .int v3), (4, .int v4)]) hx hb dX6_renumbered_15 hl (by decide) rfl (fun ls hl => ?_)
        obtain ⟨q_13, hq_13, hM⟩ := on_bind hM
        refine lp_17 v1 v2 v4 on_F v3 v5_2 q_13 hq_13 (fun H locs hP hD hS ls hl => ?_) H locs hP hD hS ls (lv_sub hl [1, 2, 3, 4, 5, 0] rfl)
        obtain ⟨v4_14, ev4_14⟩ : ∃ z : Int32, z = v4 + 1 := ⟨_, rfl⟩
        have hM := on_letE ev4_14 hM
        refine lv_iinc (v := v4_14) (lv' := [(4, .int v4_14), (0, .ref h_t), (1, .int v1), (2, .int v2), (3, .int q_13)]) hx hb dX6_renumbered_67 hl (k := 4) rfl (by rw [ev4_14]; rfl) (by decide) rfl (fun ls hl => ?_)
        refine lv_goto (tgt := 5) hx hb dX6_renumbered_70 (by decide) ?_
        have hk := on_nxL hM hk
        exact ih q_13 v4_14 _ hk K1 _ _ hP hD hS ls (lv_sub hl [1, 2, 3, 4, 0] rfl)
  refine lv_iconst (v := 0) hx hb dX6_renumbered_0 (by decide) ?_
  refine lv_istore_n (lv' := [(3, .int (0 : Int32)), (0, .ref h_t), (1, .int v1), (2, .int v2)]) hx hb dX6_renumbered_1 rfl hl (by decide) rfl (fun ls hl => ?_)
  refine lv_iconst (v := 0) hx hb dX6_renumbered_2 (by decide) ?_
  refine lv_istore (lv' := [(4, .int (0 : Int32)), (3, .int (0 : Int32)), (0, .ref h_t), (1, .int v1), (2, .int v2)]) hx hb dX6_renumbered_3 hl (by decide) rfl (fun ls hl => ?_)
  obtain ⟨q_15, hq_15, hM⟩ := on_bind hM
  refine lp_5 v1 v2 on_F (0 : Int32) (0 : Int32) q_15 hq_15 (fun H locs hP hD hS ls hl => ?_) H locs hP hD hS ls (lv_sub hl [2, 3, 4, 1, 0] rfl)
  refine lv_iload_n hx hb dX6_renumbered_73 rfl (lv_at hl 0 rfl) ?_
  have hM := Option.some.inj hM
  subst hM
  rw [← hQ]
  exact on_iret hx hb hr hlk hP hD hS dX6_renumbered_74
abbrev rm_X6_kindOf : Room := { frames := 5, cells := 0, slots := 0, locals := 114 }
set_option maxHeartbeats 4000000 in
set_option maxRecDepth 100000 in
theorem k_X6_kindOf {l : Launch} {D : va_G} {cI cJ cZ cS cA : ClassId} (h_t : Nat) (h_t_state : Nat) (h_t_images : Nat) (h_t_isKept : Nat) (h_t_pad : Nat) (h_t_row : Nat) (h_t_isUsed : Nat) (h_t_table : Nat) (t_said : Int32) (t_leastSize : Int32) (t_leastSet : Int32) (t_found : Int32) (t_rank : Int32) (t_determinant : Int64) (t_row : Nat → Int32) (t_isUsed : Nat → Int32) (v1 : Int32) (v2 : Int32) (out : Int32 × (Nat → Int32) × (Nat → Int32)) (hM : M_X6_kindOf v1 v2 t_row t_isUsed = some out) : on_Con l yX6_kindOf wsX6_kindOf rm_X6_kindOf [.ref h_t, .int v1, .int v2] D (on_T cI cJ cZ cS cA) [(h_t, .inr (6, [.ref h_t_state, .ref h_t_images, .ref h_t_isKept, .ref h_t_pad, .int t_said, .int t_leastSize, .int t_leastSet, .int t_found, .ref h_t_row, .ref h_t_isUsed, .ref h_t_table, .int t_rank, .long t_determinant])), (h_t_row, .inl (cI, 7, .inl t_row)), (h_t_isUsed, .inl (cZ, 7, .inl t_isUsed))] (some (.int out.1)) [(h_t, .inr (6, [.ref h_t_state, .ref h_t_images, .ref h_t_isKept, .ref h_t_pad, .int t_said, .int t_leastSize, .int t_leastSet, .int t_found, .ref h_t_row, .ref h_t_isUsed, .ref h_t_table, .int t_rank, .long t_determinant])), (h_t_row, .inl (cI, 7, .inl out.2.1)), (h_t_isUsed, .inl (cZ, 7, .inl out.2.2))] := by
  unfold M_X6_kindOf at hM
  refine on_enter (cc := cX6_kindOf) (nL := 8) (rt := (some .int)) (own := RX6) (by decide +kernel) rfl rfl (Nat.le_of_ble_eq_true rfl) ?_
  intro p e s m below meth c A ls hx hb hml hr hlk hts hown hA hK hN H locs hP hD hS hl
  have hl : lv_has ls 8 [(0, .ref h_t), (1, .int v1), (2, .int v2)] := hl
  generalize hQ : MQ below (on_Q D (some (.int out.1)) [(h_t, .inr (6, [.ref h_t_state, .ref h_t_images, .ref h_t_isKept, .ref h_t_pad, .int t_said, .int t_leastSize, .int t_leastSet, .int t_found, .ref h_t_row, .ref h_t_isUsed, .ref h_t_table, .int t_rank, .long t_determinant])), (h_t_row, .inl (cI, 7, .inl out.2.1)), (h_t_isUsed, .inl (cZ, 7, .inl out.2.2))] A) _ s 0 0 A = Q
  generalize hAr : List.toArray ([.ref h_t, .int v1, .int v2] : List Value) = args at hts hQ ⊢
  have w1 := hts (.fieldLink RX6 23 "OddNetsModel" "row" "[I") (by decide +kernel)
  have w2 : ∀ w ∈ wsX60, w ∈ wsX6_kindOf := by decide +kernel
  have lp_24 : ∀ (v1 : Int32) (v2 : Int32) (v4 : Int32) (v5 : Int32), ∀ (n : Nat) (v3 : Int32) (v6 : Int32) (t_row : Nat → Int32) (t_isUsed : Nat → Int32) (x : Int32 × (Nat → Int32) × (Nat → Int32)), on_loop (fun (s : Int32 × Int32 × (Nat → Int32) × (Nat → Int32)) => B_X6_kindOf_24 v1 v4 v5 s.1 s.2.1 s.2.2.1 s.2.2.2) n (v3, v6, t_row, t_isUsed) = some x → (∀ (H : Heap) (locs : List Loc), va_P D vwCl [(h_t, .inr (6, [.ref h_t_state, .ref h_t_images, .ref h_t_isKept, .ref h_t_pad, .int t_said, .int t_leastSize, .int t_leastSet, .int t_found, .ref h_t_row, .ref h_t_isUsed, .ref h_t_table, .int t_rank, .long t_determinant])), (h_t_row, .inl (cI, 7, .inl x.2.1)), (h_t_isUsed, .inl (cZ, 7, .inl x.2.2))] H → va_D A [(h_t, .inr (6, [.ref h_t_state, .ref h_t_images, .ref h_t_isKept, .ref h_t_pad, .int t_said, .int t_leastSize, .int t_leastSet, .int t_found, .ref h_t_row, .ref h_t_isUsed, .ref h_t_table, .int t_rank, .long t_determinant])), (h_t_row, .inl (cI, 7, .inl x.2.1)), (h_t_isUsed, .inl (cZ, 7, .inl x.2.2))] → va_S A s.heap H locs → ∀ ls : Array Slot, lv_has ls 8 [(0, .ref h_t), (1, .int v1), (2, .int v2), (3, .int x.1), (4, .int v4)] → W p l e rm_X6_kindOf s m args below meth c H locs 0 0 Q (F0 m 82 ls [])) → ∀ (H : Heap) (locs : List Loc), va_P D vwCl [(h_t, .inr (6, [.ref h_t_state, .ref h_t_images, .ref h_t_isKept, .ref h_t_pad, .int t_said, .int t_leastSize, .int t_leastSet, .int t_found, .ref h_t_row, .ref h_t_isUsed, .ref h_t_table, .int t_rank, .long t_determinant])), (h_t_row, .inl (cI, 7, .inl t_row)), (h_t_isUsed, .inl (cZ, 7, .inl t_isUsed))] H → va_D A [(h_t, .inr (6, [.ref h_t_state, .ref h_t_images, .ref h_t_isKept, .ref h_t_pad, .int t_said, .int t_leastSize, .int t_leastSet, .int t_found, .ref h_t_row, .ref h_t_isUsed, .ref h_t_table, .int t_rank, .long t_determinant])), (h_t_row, .inl (cI, 7, .inl t_row)), (h_t_isUsed, .inl (cZ, 7, .inl t_isUsed))] → va_S A s.heap H locs → ∀ ls : Array Slot, lv_has ls 8 [(0, .ref h_t), (1, .int v1), (2, .int v2), (3, .int v3), (4, .int v4), (5, .int v5), (6, .int v6)] → W p l e rm_X6_kindOf s m args below meth c H locs 0 0 Q (F0 m 24 ls []) := by
    intro v1 v2 v4 v5
    intro n
    induction n with
    | zero =>
      intro v3 v6 t_row t_isUsed x hL
      exact (on_loop0 hL).elim
    | succ n ih =>
      intro v3 v6 t_row t_isUsed x hL K1 H locs hP hD hS ls hl
      obtain ⟨y, hM, hk⟩ := on_loopE hL
      have hM : B_X6_kindOf_24 v1 v4 v5 v3 v6 t_row t_isUsed = some y := hM
      unfold B_X6_kindOf_24 at hM
      refine lv_iload hx hb dX6_kindOf_24 (lv_at hl 6 rfl) ?_
      refine lv_iload_n hx hb dX6_kindOf_26 rfl (lv_at hl 1 rfl) ?_
      obtain ⟨q_3, hq_3, hM⟩ := on_bind hM
      refine on_callS0 (rest := [.int v6]) (As := [.int v1]) (st1 := [.int q_3, .int v6]) ⟨hx, hb, hml, hown, hts⟩ (k_X6_orders v1 q_3 hq_3) (va_cwS 1 hts gX6_kindOf_X6_orders rfl rfl rfl hdX6_orders ⟨(Nat.le_of_ble_eq_true rfl), (Nat.le_of_ble_eq_true rfl)⟩) hK hN hP hD hS hA rfl hl.1 rfl (Nat.le_of_ble_eq_true rfl) rfl dX6_kindOf_27 ⟨Nat.zero_le _, Nat.zero_le _⟩ (fun H locs hP hS => ?_)
      refine lv_icmp_ge (tgt := 82) hx hb dX6_kindOf_30 (by decide) (fun c_4 => ?_) (fun c_4 => ?_)
      · have hM := on_pos c_4 hM
        have hk := on_nxR hM hk
        subst hk
        exact K1 _ _ hP hD hS ls (lv_sub hl [0, 1, 2, 3, 4] rfl)
      · have hM := on_neg c_4 hM
        refine lv_aload_n hx hb dX6_kindOf_33 rfl (lv_at hl 0 rfl) ?_
        refine lv_iload_n hx hb dX6_kindOf_34 rfl (lv_at hl 1 rfl) ?_
        refine lv_iload hx hb dX6_kindOf_35 (lv_at hl 6 rfl) ?_
        obtain ⟨q_5, hq_5, hM⟩ := on_bind hM
        refine on_callV (rest := []) (As := [.int v1, .int v6]) (st1 := []) (C := RX6) (ci := 6) (q0 := 0) (wc := [(h_t, .inr (6, [.ref h_t_state, .ref h_t_images, .ref h_t_isKept, .ref h_t_pad, .int t_said, .int t_leastSize, .int t_leastSet, .int t_found, .ref h_t_row, .ref h_t_isUsed, .ref h_t_table, .int t_rank, .long t_determinant])), (h_t_row, .inl (cI, 7, .inl t_row)), (h_t_isUsed, .inl (cZ, 7, .inl t_isUsed))]) (wr := []) (wc' := [(h_t, .inr (6, [.ref h_t_state, .ref h_t_images, .ref h_t_isKept, .ref h_t_pad, .int t_said, .int t_leastSize, .int t_leastSet, .int t_found, .ref h_t_row, .ref h_t_isUsed, .ref h_t_table, .int t_rank, .long t_determinant])), (h_t_row, .inl (cI, 7, .inl q_5.1)), (h_t_isUsed, .inl (cZ, 7, .inl q_5.2))]) (wf := [(h_t, .inr (6, [.ref h_t_state, .ref h_t_images, .ref h_t_isKept, .ref h_t_pad, .int t_said, .int t_leastSize, .int t_leastSet, .int t_found, .ref h_t_row, .ref h_t_isUsed, .ref h_t_table, .int t_rank, .long t_determinant])), (h_t_row, .inl (cI, 7, .inl q_5.1)), (h_t_isUsed, .inl (cZ, 7, .inl q_5.2))]) (rt := none) ⟨hx, hb, hml, hown, hts⟩ (k_X6_layRank h_t h_t_state h_t_images h_t_isKept h_t_pad h_t_row h_t_isUsed h_t_table t_said t_leastSize t_leastSet t_found t_rank t_determinant t_row t_isUsed v1 v6 q_5 hq_5) (cwV 2 hts gX6_kindOf_X6_layRank rfl rfl rfl ⟨rfl, hdX6_layRank⟩ ⟨(Nat.le_of_ble_eq_true rfl), (Nat.le_of_ble_eq_true rfl)⟩) hK hN hP hD hS hA [0, 1, 2] [] [0, 1, 2] rfl rfl rfl rfl (by decide) rfl rfl rfl rfl rfl rfl hl.1 rfl (Nat.le_of_ble_eq_true rfl) rfl dX6_kindOf_37 ⟨Nat.zero_le _, Nat.zero_le _⟩ (fun H locs hP hD hS => ?_)
        refine lv_aload_n hx hb dX6_kindOf_40 rfl (lv_at hl 0 rfl) ?_
        refine va_get (D := D) (ci := 6) (v := .ref h_t_row) (C := RX6) (T := TX6) (N := 13) hx hb hts w2 hown hK hP 0 rfl rfl 8 (by decide) w1 (fun _ h9 => h9) rfl dX6_kindOf_41 ?_
        refine lv_iload hx hb dX6_kindOf_44 (lv_at hl 4 rfl) ?_
        obtain ⟨g_6, hM⟩ := on_gdE hM
        refine va_iald hx hb hK hP 1 0 rfl rfl (on_ixE g_6) dX6_kindOf_46 ?_
        refine lv_if_ne (tgt := 76) hx hb dX6_kindOf_47 (by decide) (fun c_7 => ?_) (fun c_7 => ?_)
        · have hM := on_neg c_7 hM
          obtain ⟨v6_8, ev6_8⟩ : ∃ z : Int32, z = v6 + 1 := ⟨_, rfl⟩
          have hM := on_letE ev6_8 hM
          refine lv_iinc (v := v6_8) (lv' := [(6, .int v6_8), (0, .ref h_t), (1, .int v1), (2, .int v2), (3, .int v3), (4, .int v4), (5, .int v5)]) hx hb dX6_kindOf_76 hl (k := 6) rfl (by rw [ev6_8]; rfl) (by decide) rfl (fun ls hl => ?_)
          refine lv_goto (tgt := 24) hx hb dX6_kindOf_79 (by decide) ?_
          have hk := on_nxL hM hk
          exact ih v3 v6_8 q_5.1 q_5.2 _ hk K1 _ _ hP hD hS ls (lv_sub hl [1, 2, 3, 4, 5, 6, 0] rfl)
        · have hM := on_pos c_7 hM
          refine lv_aload_n hx hb dX6_kindOf_50 rfl (lv_at hl 0 rfl) ?_
          refine lv_iload_n hx hb dX6_kindOf_51 rfl (lv_at hl 1 rfl) ?_
          refine lv_iload hx hb dX6_kindOf_52 (lv_at hl 5 rfl) ?_
          obtain ⟨q_9, hq_9, hM⟩ := on_bind hM
          refine on_callV (rest := []) (As := [.int v1, .int v5]) (st1 := [.int q_9]) (C := RX6) (ci := 6) (q0 := 0) (wc := [(h_t, .inr (6, [.ref h_t_state, .ref h_t_images, .ref h_t_isKept, .ref h_t_pad, .int t_said, .int t_leastSize, .int t_leastSet, .int t_found, .ref h_t_row, .ref h_t_isUsed, .ref h_t_table, .int t_rank, .long t_determinant])), (h_t_row, .inl (cI, 7, .inl q_5.1))]) (wr := [(h_t_isUsed, .inl (cZ, 7, .inl q_5.2))]) (wc' := [(h_t, .inr (6, [.ref h_t_state, .ref h_t_images, .ref h_t_isKept, .ref h_t_pad, .int t_said, .int t_leastSize, .int t_leastSet, .int t_found, .ref h_t_row, .ref h_t_isUsed, .ref h_t_table, .int t_rank, .long t_determinant])), (h_t_row, .inl (cI, 7, .inl q_5.1))]) (wf := [(h_t, .inr (6, [.ref h_t_state, .ref h_t_images, .ref h_t_isKept, .ref h_t_pad, .int t_said, .int t_leastSize, .int t_leastSet, .int t_found, .ref h_t_row, .ref h_t_isUsed, .ref h_t_table, .int t_rank, .long t_determinant])), (h_t_row, .inl (cI, 7, .inl q_5.1)), (h_t_isUsed, .inl (cZ, 7, .inl q_5.2))]) (rt := (some (.int q_9))) ⟨hx, hb, hml, hown, hts⟩ (k_X6_renumbered h_t h_t_state h_t_images h_t_isKept h_t_pad h_t_row h_t_isUsed h_t_table t_said t_leastSize t_leastSet t_found t_rank t_determinant q_5.1 v1 v5 q_9 hq_9) (cwV 2 hts gX6_kindOf_X6_renumbered rfl rfl rfl ⟨rfl, hdX6_renumbered⟩ ⟨(Nat.le_of_ble_eq_true rfl), (Nat.le_of_ble_eq_true rfl)⟩) hK hN hP hD hS hA [0, 1] [2] [1, 2, 0] rfl rfl rfl rfl (by decide) rfl rfl rfl rfl rfl rfl hl.1 rfl (Nat.le_of_ble_eq_true rfl) rfl dX6_kindOf_54 ⟨Nat.zero_le _, Nat.zero_le _⟩ (fun H locs hP hD hS => ?_)
          refine lv_istore (lv' := [(7, .int q_9), (0, .ref h_t), (1, .int v1), (2, .int v2), (3, .int v3), (4, .int v4), (5, .int v5), (6, .int v6)]) hx hb dX6_kindOf_57 hl (by decide) rfl (fun ls hl => ?_)
          refine lv_iload_n hx hb dX6_kindOf_59 rfl (lv_at hl 4 rfl) ?_
          refine lv_if_lt (tgt := 69) hx hb dX6_kindOf_60 (by decide) (fun c_10 => ?_) (fun c_10 => ?_)
          · have hM := on_pos c_10 hM
            refine lv_iload hx hb dX6_kindOf_69 (lv_at hl 0 rfl) ?_
            refine lv_goto (tgt := 75) hx hb dX6_kindOf_71 (by decide) ?_
            refine lv_istore_n (lv' := [(3, .int q_9), (7, .int q_9), (0, .ref h_t), (1, .int v1), (2, .int v2), (4, .int v4), (5, .int v5), (6, .int v6)]) hx hb dX6_kindOf_75 rfl hl (by decide) rfl (fun ls hl => ?_)
            obtain ⟨v6_11, ev6_11⟩ : ∃ z : Int32, z = v6 + 1 := ⟨_, rfl⟩
            have hM := on_letE ev6_11 hM
            refine lv_iinc (v := v6_11) (lv' := [(6, .int v6_11), (3, .int q_9), (7, .int q_9), (0, .ref h_t), (1, .int v1), (2, .int v2), (4, .int v4), (5, .int v5)]) hx hb dX6_kindOf_76 hl (k := 7) rfl (by rw [ev6_11]; rfl) (by decide) rfl (fun ls hl => ?_)
            refine lv_goto (tgt := 24) hx hb dX6_kindOf_79 (by decide) ?_
            have hk := on_nxL hM hk
            exact ih q_9 v6_11 q_5.1 q_5.2 _ hk K1 _ _ hP hD hS ls (lv_sub hl [3, 4, 5, 1, 6, 7, 0] rfl)
          · have hM := on_neg c_10 hM
            refine lv_iload hx hb dX6_kindOf_63 (lv_at hl 0 rfl) ?_
            refine lv_iload_n hx hb dX6_kindOf_65 rfl (lv_at hl 4 rfl) ?_
            refine lv_icmp_ge (tgt := 74) hx hb dX6_kindOf_66 (by decide) (fun c_12 => ?_) (fun c_12 => ?_)
            · have hM := on_pos c_12 hM
              refine lv_iload_n hx hb dX6_kindOf_74 rfl (lv_at hl 4 rfl) ?_
              refine lv_istore_n (lv' := [(3, .int v3), (7, .int q_9), (0, .ref h_t), (1, .int v1), (2, .int v2), (4, .int v4), (5, .int v5), (6, .int v6)]) hx hb dX6_kindOf_75 rfl hl (by decide) rfl (fun ls hl => ?_)
              obtain ⟨v6_13, ev6_13⟩ : ∃ z : Int32, z = v6 + 1 := ⟨_, rfl⟩
              have hM := on_letE ev6_13 hM
              refine lv_iinc (v := v6_13) (lv' := [(6, .int v6_13), (3, .int v3), (7, .int q_9), (0, .ref h_t), (1, .int v1), (2, .int v2), (4, .int v4), (5, .int v5)]) hx hb dX6_kindOf_76 hl (k := 7) rfl (by rw [ev6_13]; rfl) (by decide) rfl (fun ls hl => ?_)
              refine lv_goto (tgt := 24) hx hb dX6_kindOf_79 (by decide) ?_
              have hk := on_nxL hM hk
              exact ih v3 v6_13 q_5.1 q_5.2 _ hk K1 _ _ hP hD hS ls (lv_sub hl [3, 4, 5, 1, 6, 7, 0] rfl)
            · have hM := on_neg c_12 hM
              refine lv_iload hx hb dX6_kindOf_69 (lv_at hl 0 rfl) ?_
              refine lv_goto (tgt := 75) hx hb dX6_kindOf_71 (by decide) ?_
              refine lv_istore_n (lv' := [(3, .int q_9), (7, .int q_9), (0, .ref h_t), (1, .int v1), (2, .int v2), (4, .int v4), (5, .int v5), (6, .int v6)]) hx hb dX6_kindOf_75 rfl hl (by decide) rfl (fun ls hl => ?_)
              obtain ⟨v6_14, ev6_14⟩ : ∃ z : Int32, z = v6 + 1 := ⟨_, rfl⟩
              have hM := on_letE ev6_14 hM
              refine lv_iinc (v := v6_14) (lv' := [(6, .int v6_14), (3, .int q_9), (7, .int q_9), (0, .ref h_t), (1, .int v1), (2, .int v2), (4, .int v4), (5, .int v5)]) hx hb dX6_kindOf_76 hl (k := 7) rfl (by rw [ev6_14]; rfl) (by decide) rfl (fun ls hl => ?_)
              refine lv_goto (tgt := 24) hx hb dX6_kindOf_79 (by decide) ?_
              have hk := on_nxL hM hk
              exact ih q_9 v6_14 q_5.1 q_5.2 _ hk K1 _ _ hP hD hS ls (lv_sub hl [3, 4, 5, 1, 6, 7, 0] rfl)
  have lp_6 : ∀ (v1 : Int32) (v2 : Int32), ∀ (n : Nat) (v3 : Int32) (v4 : Int32) (t_row : Nat → Int32) (t_isUsed : Nat → Int32) (x : Int32 × (Nat → Int32) × (Nat → Int32)), on_loop (fun (s : Int32 × Int32 × (Nat → Int32) × (Nat → Int32)) => B_X6_kindOf_6 v1 v2 s.1 s.2.1 s.2.2.1 s.2.2.2) n (v3, v4, t_row, t_isUsed) = some x → (∀ (H : Heap) (locs : List Loc), va_P D vwCl [(h_t, .inr (6, [.ref h_t_state, .ref h_t_images, .ref h_t_isKept, .ref h_t_pad, .int t_said, .int t_leastSize, .int t_leastSet, .int t_found, .ref h_t_row, .ref h_t_isUsed, .ref h_t_table, .int t_rank, .long t_determinant])), (h_t_row, .inl (cI, 7, .inl x.2.1)), (h_t_isUsed, .inl (cZ, 7, .inl x.2.2))] H → va_D A [(h_t, .inr (6, [.ref h_t_state, .ref h_t_images, .ref h_t_isKept, .ref h_t_pad, .int t_said, .int t_leastSize, .int t_leastSet, .int t_found, .ref h_t_row, .ref h_t_isUsed, .ref h_t_table, .int t_rank, .long t_determinant])), (h_t_row, .inl (cI, 7, .inl x.2.1)), (h_t_isUsed, .inl (cZ, 7, .inl x.2.2))] → va_S A s.heap H locs → ∀ ls : Array Slot, lv_has ls 8 [(3, .int x.1)] → W p l e rm_X6_kindOf s m args below meth c H locs 0 0 Q (F0 m 88 ls [])) → ∀ (H : Heap) (locs : List Loc), va_P D vwCl [(h_t, .inr (6, [.ref h_t_state, .ref h_t_images, .ref h_t_isKept, .ref h_t_pad, .int t_said, .int t_leastSize, .int t_leastSet, .int t_found, .ref h_t_row, .ref h_t_isUsed, .ref h_t_table, .int t_rank, .long t_determinant])), (h_t_row, .inl (cI, 7, .inl t_row)), (h_t_isUsed, .inl (cZ, 7, .inl t_isUsed))] H → va_D A [(h_t, .inr (6, [.ref h_t_state, .ref h_t_images, .ref h_t_isKept, .ref h_t_pad, .int t_said, .int t_leastSize, .int t_leastSet, .int t_found, .ref h_t_row, .ref h_t_isUsed, .ref h_t_table, .int t_rank, .long t_determinant])), (h_t_row, .inl (cI, 7, .inl t_row)), (h_t_isUsed, .inl (cZ, 7, .inl t_isUsed))] → va_S A s.heap H locs → ∀ ls : Array Slot, lv_has ls 8 [(0, .ref h_t), (1, .int v1), (2, .int v2), (3, .int v3), (4, .int v4)] → W p l e rm_X6_kindOf s m args below meth c H locs 0 0 Q (F0 m 6 ls []) := by
    intro v1 v2
    intro n
    induction n with
    | zero =>
      intro v3 v4 t_row t_isUsed x hL
      exact (on_loop0 hL).elim
    | succ n ih =>
      intro v3 v4 t_row t_isUsed x hL K1 H locs hP hD hS ls hl
      obtain ⟨y, hM, hk⟩ := on_loopE hL
      have hM : B_X6_kindOf_6 v1 v2 v3 v4 t_row t_isUsed = some y := hM
      unfold B_X6_kindOf_6 at hM
      refine lv_iload hx hb dX6_kindOf_6 (lv_at hl 4 rfl) ?_
      refine lv_iload_n hx hb dX6_kindOf_8 rfl (lv_at hl 1 rfl) ?_
      refine lv_icmp_ge (tgt := 88) hx hb dX6_kindOf_9 (by decide) (fun c_1 => ?_) (fun c_1 => ?_)
      · have hM := on_pos c_1 hM
        have hk := on_nxR hM hk
        subst hk
        exact K1 _ _ hP hD hS ls (lv_sub hl [3] rfl)
      · have hM := on_neg c_1 hM
        refine lv_iload_n hx hb dX6_kindOf_12 rfl (lv_at hl 1 rfl) ?_
        refine lv_iload_n hx hb dX6_kindOf_13 rfl (lv_at hl 2 rfl) ?_
        refine lv_iload hx hb dX6_kindOf_14 (lv_at hl 4 rfl) ?_
        obtain ⟨q_2, hq_2, hM⟩ := on_bind hM
        refine on_callS0 (rest := []) (As := [.int v1, .int v2, .int v4]) (st1 := [.int q_2]) ⟨hx, hb, hml, hown, hts⟩ (k_X6_alone v1 v2 v4 q_2 hq_2) (va_cwS 3 hts gX6_kindOf_X6_alone rfl rfl rfl hdX6_alone ⟨(Nat.le_of_ble_eq_true rfl), (Nat.le_of_ble_eq_true rfl)⟩) hK hN hP hD hS hA rfl hl.1 rfl (Nat.le_of_ble_eq_true rfl) rfl dX6_kindOf_16 ⟨Nat.zero_le _, Nat.zero_le _⟩ (fun H locs hP hS => ?_)
        refine lv_istore (lv' := [(5, .int q_2), (0, .ref h_t), (1, .int v1), (2, .int v2), (3, .int v3), (4, .int v4)]) hx hb dX6_kindOf_19 hl (by decide) rfl (fun ls hl => ?_)
        refine lv_iconst (v := 0) hx hb dX6_kindOf_21 (by decide) ?_
        refine lv_istore (lv' := [(6, .int (0 : Int32)), (5, .int q_2), (0, .ref h_t), (1, .int v1), (2, .int v2), (3, .int v3), (4, .int v4)]) hx hb dX6_kindOf_22 hl (by decide) rfl (fun ls hl => ?_)
        obtain ⟨q_15, hq_15, hM⟩ := on_bind hM
        refine lp_24 v1 v2 v4 q_2 on_F v3 (0 : Int32) t_row t_isUsed q_15 hq_15 (fun H locs hP hD hS ls hl => ?_) H locs hP hD hS ls (lv_sub hl [2, 3, 4, 5, 6, 1, 0] rfl)
        obtain ⟨v4_16, ev4_16⟩ : ∃ z : Int32, z = v4 + 1 := ⟨_, rfl⟩
        have hM := on_letE ev4_16 hM
        refine lv_iinc (v := v4_16) (lv' := [(4, .int v4_16), (0, .ref h_t), (1, .int v1), (2, .int v2), (3, .int q_15.1)]) hx hb dX6_kindOf_82 hl (k := 4) rfl (by rw [ev4_16]; rfl) (by decide) rfl (fun ls hl => ?_)
        refine lv_goto (tgt := 6) hx hb dX6_kindOf_85 (by decide) ?_
        have hk := on_nxL hM hk
        exact ih q_15.1 v4_16 q_15.2.1 q_15.2.2 _ hk K1 _ _ hP hD hS ls (lv_sub hl [1, 2, 3, 4, 0] rfl)
  refine lv_bipush (v := -6) hx hb dX6_kindOf_0 (by decide) ?_
  refine lv_istore_n (lv' := [(3, .int (-6 : Int32)), (0, .ref h_t), (1, .int v1), (2, .int v2)]) hx hb dX6_kindOf_2 rfl hl (by decide) rfl (fun ls hl => ?_)
  refine lv_iconst (v := 0) hx hb dX6_kindOf_3 (by decide) ?_
  refine lv_istore (lv' := [(4, .int (0 : Int32)), (3, .int (-6 : Int32)), (0, .ref h_t), (1, .int v1), (2, .int v2)]) hx hb dX6_kindOf_4 hl (by decide) rfl (fun ls hl => ?_)
  obtain ⟨q_17, hq_17, hM⟩ := on_bind hM
  refine lp_6 v1 v2 on_F (-6 : Int32) (0 : Int32) t_row t_isUsed q_17 hq_17 (fun H locs hP hD hS ls hl => ?_) H locs hP hD hS ls (lv_sub hl [2, 3, 4, 1, 0] rfl)
  refine lv_iload_n hx hb dX6_kindOf_88 rfl (lv_at hl 0 rfl) ?_
  have hM := Option.some.inj hM
  subst hM
  rw [← hQ]
  exact on_iret hx hb hr hlk hP hD hS dX6_kindOf_89
abbrev rm_X6_comesTo : Room := { frames := 5, cells := 0, slots := 0, locals := 114 }
set_option maxHeartbeats 4000000 in
set_option maxRecDepth 100000 in
theorem k_X6_comesTo {l : Launch} {D : va_G} {cI cJ cZ cS cA : ClassId} (h_t : Nat) (h_t_state : Nat) (h_t_images : Nat) (h_t_isKept : Nat) (h_t_pad : Nat) (h_t_row : Nat) (h_t_isUsed : Nat) (h_t_table : Nat) (t_said : Int32) (t_leastSize : Int32) (t_leastSet : Int32) (t_found : Int32) (t_rank : Int32) (t_determinant : Int64) (t_row : Nat → Int32) (t_isUsed : Nat → Int32) (v1 : Int32) (v2 : Int32) (v3 : Int32) (v4 : Int32) (out : Int32 × (Nat → Int32) × (Nat → Int32)) (hM : M_X6_comesTo v1 v2 v3 v4 t_row t_isUsed = some out) : on_Con l yX6_comesTo wsX6_comesTo rm_X6_comesTo [.ref h_t, .int v1, .int v2, .int v3, .int v4] D (on_T cI cJ cZ cS cA) [(h_t, .inr (6, [.ref h_t_state, .ref h_t_images, .ref h_t_isKept, .ref h_t_pad, .int t_said, .int t_leastSize, .int t_leastSet, .int t_found, .ref h_t_row, .ref h_t_isUsed, .ref h_t_table, .int t_rank, .long t_determinant])), (h_t_row, .inl (cI, 7, .inl t_row)), (h_t_isUsed, .inl (cZ, 7, .inl t_isUsed))] (some (.int out.1)) [(h_t, .inr (6, [.ref h_t_state, .ref h_t_images, .ref h_t_isKept, .ref h_t_pad, .int t_said, .int t_leastSize, .int t_leastSet, .int t_found, .ref h_t_row, .ref h_t_isUsed, .ref h_t_table, .int t_rank, .long t_determinant])), (h_t_row, .inl (cI, 7, .inl out.2.1)), (h_t_isUsed, .inl (cZ, 7, .inl out.2.2))] := by
  unfold M_X6_comesTo at hM
  refine on_enter (cc := cX6_comesTo) (nL := 9) (rt := (some .int)) (own := RX6) (by decide +kernel) rfl rfl (Nat.le_of_ble_eq_true rfl) ?_
  intro p e s m below meth c A ls hx hb hml hr hlk hts hown hA hK hN H locs hP hD hS hl
  have hl : lv_has ls 9 [(0, .ref h_t), (1, .int v1), (2, .int v2), (3, .int v3), (4, .int v4)] := hl
  generalize hQ : MQ below (on_Q D (some (.int out.1)) [(h_t, .inr (6, [.ref h_t_state, .ref h_t_images, .ref h_t_isKept, .ref h_t_pad, .int t_said, .int t_leastSize, .int t_leastSet, .int t_found, .ref h_t_row, .ref h_t_isUsed, .ref h_t_table, .int t_rank, .long t_determinant])), (h_t_row, .inl (cI, 7, .inl out.2.1)), (h_t_isUsed, .inl (cZ, 7, .inl out.2.2))] A) _ s 0 0 A = Q
  generalize hAr : List.toArray ([.ref h_t, .int v1, .int v2, .int v3, .int v4] : List Value) = args at hts hQ ⊢
  have lp_23 : ∀ (v1 : Int32) (v2 : Int32) (v4 : Int32) (v5 : Int32), ∀ (n : Nat) (v6 : Int32) (v7 : Int32) (t_row : Nat → Int32) (t_isUsed : Nat → Int32) (x : Int32 × (Nat → Int32) × (Nat → Int32)), on_loop (fun (s : Int32 × Int32 × (Nat → Int32) × (Nat → Int32)) => B_X6_comesTo_23 v1 v2 v4 v5 s.1 s.2.1 s.2.2.1 s.2.2.2) n (v6, v7, t_row, t_isUsed) = some x → (∀ (H : Heap) (locs : List Loc), va_P D vwCl [(h_t, .inr (6, [.ref h_t_state, .ref h_t_images, .ref h_t_isKept, .ref h_t_pad, .int t_said, .int t_leastSize, .int t_leastSet, .int t_found, .ref h_t_row, .ref h_t_isUsed, .ref h_t_table, .int t_rank, .long t_determinant])), (h_t_row, .inl (cI, 7, .inl x.2.1)), (h_t_isUsed, .inl (cZ, 7, .inl x.2.2))] H → va_D A [(h_t, .inr (6, [.ref h_t_state, .ref h_t_images, .ref h_t_isKept, .ref h_t_pad, .int t_said, .int t_leastSize, .int t_leastSet, .int t_found, .ref h_t_row, .ref h_t_isUsed, .ref h_t_table, .int t_rank, .long t_determinant])), (h_t_row, .inl (cI, 7, .inl x.2.1)), (h_t_isUsed, .inl (cZ, 7, .inl x.2.2))] → va_S A s.heap H locs → ∀ ls : Array Slot, lv_has ls 9 [(6, .int x.1)] → W p l e rm_X6_comesTo s m args below meth c H locs 0 0 Q (F0 m 85 ls [])) → ∀ (H : Heap) (locs : List Loc), va_P D vwCl [(h_t, .inr (6, [.ref h_t_state, .ref h_t_images, .ref h_t_isKept, .ref h_t_pad, .int t_said, .int t_leastSize, .int t_leastSet, .int t_found, .ref h_t_row, .ref h_t_isUsed, .ref h_t_table, .int t_rank, .long t_determinant])), (h_t_row, .inl (cI, 7, .inl t_row)), (h_t_isUsed, .inl (cZ, 7, .inl t_isUsed))] H → va_D A [(h_t, .inr (6, [.ref h_t_state, .ref h_t_images, .ref h_t_isKept, .ref h_t_pad, .int t_said, .int t_leastSize, .int t_leastSet, .int t_found, .ref h_t_row, .ref h_t_isUsed, .ref h_t_table, .int t_rank, .long t_determinant])), (h_t_row, .inl (cI, 7, .inl t_row)), (h_t_isUsed, .inl (cZ, 7, .inl t_isUsed))] → va_S A s.heap H locs → ∀ ls : Array Slot, lv_has ls 9 [(0, .ref h_t), (1, .int v1), (2, .int v2), (4, .int v4), (5, .int v5), (6, .int v6), (7, .int v7)] → W p l e rm_X6_comesTo s m args below meth c H locs 0 0 Q (F0 m 23 ls []) := by
    intro v1 v2 v4 v5
    intro n
    induction n with
    | zero =>
      intro v6 v7 t_row t_isUsed x hL
      exact (on_loop0 hL).elim
    | succ n ih =>
      intro v6 v7 t_row t_isUsed x hL K1 H locs hP hD hS ls hl
      obtain ⟨y, hM, hk⟩ := on_loopE hL
      have hM : B_X6_comesTo_23 v1 v2 v4 v5 v6 v7 t_row t_isUsed = some y := hM
      unfold B_X6_comesTo_23 at hM
      refine lv_iload hx hb dX6_comesTo_23 (lv_at hl 6 rfl) ?_
      refine lv_iload_n hx hb dX6_comesTo_25 rfl (lv_at hl 1 rfl) ?_
      obtain ⟨q_2, hq_2, hM⟩ := on_bind hM
      refine on_callS0 (rest := [.int v7]) (As := [.int v1]) (st1 := [.int q_2, .int v7]) ⟨hx, hb, hml, hown, hts⟩ (k_X6_orders v1 q_2 hq_2) (va_cwS 1 hts gX6_comesTo_X6_orders rfl rfl rfl hdX6_orders ⟨(Nat.le_of_ble_eq_true rfl), (Nat.le_of_ble_eq_true rfl)⟩) hK hN hP hD hS hA rfl hl.1 rfl (Nat.le_of_ble_eq_true rfl) rfl dX6_comesTo_26 ⟨Nat.zero_le _, Nat.zero_le _⟩ (fun H locs hP hS => ?_)
      refine lv_icmp_ge (tgt := 85) hx hb dX6_comesTo_29 (by decide) (fun c_3 => ?_) (fun c_3 => ?_)
      · have hM := on_pos c_3 hM
        have hk := on_nxR hM hk
        subst hk
        exact K1 _ _ hP hD hS ls (lv_sub hl [5] rfl)
      · have hM := on_neg c_3 hM
        refine lv_aload_n hx hb dX6_comesTo_32 rfl (lv_at hl 0 rfl) ?_
        refine lv_iload_n hx hb dX6_comesTo_33 rfl (lv_at hl 1 rfl) ?_
        refine lv_iload hx hb dX6_comesTo_34 (lv_at hl 6 rfl) ?_
        obtain ⟨q_4, hq_4, hM⟩ := on_bind hM
        refine on_callV (rest := []) (As := [.int v1, .int v7]) (st1 := []) (C := RX6) (ci := 6) (q0 := 0) (wc := [(h_t, .inr (6, [.ref h_t_state, .ref h_t_images, .ref h_t_isKept, .ref h_t_pad, .int t_said, .int t_leastSize, .int t_leastSet, .int t_found, .ref h_t_row, .ref h_t_isUsed, .ref h_t_table, .int t_rank, .long t_determinant])), (h_t_row, .inl (cI, 7, .inl t_row)), (h_t_isUsed, .inl (cZ, 7, .inl t_isUsed))]) (wr := []) (wc' := [(h_t, .inr (6, [.ref h_t_state, .ref h_t_images, .ref h_t_isKept, .ref h_t_pad, .int t_said, .int t_leastSize, .int t_leastSet, .int t_found, .ref h_t_row, .ref h_t_isUsed, .ref h_t_table, .int t_rank, .long t_determinant])), (h_t_row, .inl (cI, 7, .inl q_4.1)), (h_t_isUsed, .inl (cZ, 7, .inl q_4.2))]) (wf := [(h_t, .inr (6, [.ref h_t_state, .ref h_t_images, .ref h_t_isKept, .ref h_t_pad, .int t_said, .int t_leastSize, .int t_leastSet, .int t_found, .ref h_t_row, .ref h_t_isUsed, .ref h_t_table, .int t_rank, .long t_determinant])), (h_t_row, .inl (cI, 7, .inl q_4.1)), (h_t_isUsed, .inl (cZ, 7, .inl q_4.2))]) (rt := none) ⟨hx, hb, hml, hown, hts⟩ (k_X6_layRank h_t h_t_state h_t_images h_t_isKept h_t_pad h_t_row h_t_isUsed h_t_table t_said t_leastSize t_leastSet t_found t_rank t_determinant t_row t_isUsed v1 v7 q_4 hq_4) (cwV 2 hts gX6_comesTo_X6_layRank rfl rfl rfl ⟨rfl, hdX6_layRank⟩ ⟨(Nat.le_of_ble_eq_true rfl), (Nat.le_of_ble_eq_true rfl)⟩) hK hN hP hD hS hA [0, 1, 2] [] [0, 1, 2] rfl rfl rfl rfl (by decide) rfl rfl rfl rfl rfl rfl hl.1 rfl (Nat.le_of_ble_eq_true rfl) rfl dX6_comesTo_36 ⟨Nat.zero_le _, Nat.zero_le _⟩ (fun H locs hP hD hS => ?_)
        refine lv_aload_n hx hb dX6_comesTo_39 rfl (lv_at hl 0 rfl) ?_
        refine lv_iload_n hx hb dX6_comesTo_40 rfl (lv_at hl 1 rfl) ?_
        refine lv_iload_n hx hb dX6_comesTo_41 rfl (lv_at hl 2 rfl) ?_
        obtain ⟨q_5, hq_5, hM⟩ := on_bind hM
        refine on_callV (rest := []) (As := [.int v1, .int v2]) (st1 := [.int q_5]) (C := RX6) (ci := 6) (q0 := 0) (wc := [(h_t, .inr (6, [.ref h_t_state, .ref h_t_images, .ref h_t_isKept, .ref h_t_pad, .int t_said, .int t_leastSize, .int t_leastSet, .int t_found, .ref h_t_row, .ref h_t_isUsed, .ref h_t_table, .int t_rank, .long t_determinant])), (h_t_row, .inl (cI, 7, .inl q_4.1))]) (wr := [(h_t_isUsed, .inl (cZ, 7, .inl q_4.2))]) (wc' := [(h_t, .inr (6, [.ref h_t_state, .ref h_t_images, .ref h_t_isKept, .ref h_t_pad, .int t_said, .int t_leastSize, .int t_leastSet, .int t_found, .ref h_t_row, .ref h_t_isUsed, .ref h_t_table, .int t_rank, .long t_determinant])), (h_t_row, .inl (cI, 7, .inl q_4.1))]) (wf := [(h_t, .inr (6, [.ref h_t_state, .ref h_t_images, .ref h_t_isKept, .ref h_t_pad, .int t_said, .int t_leastSize, .int t_leastSet, .int t_found, .ref h_t_row, .ref h_t_isUsed, .ref h_t_table, .int t_rank, .long t_determinant])), (h_t_row, .inl (cI, 7, .inl q_4.1)), (h_t_isUsed, .inl (cZ, 7, .inl q_4.2))]) (rt := (some (.int q_5))) ⟨hx, hb, hml, hown, hts⟩ (k_X6_renumbered h_t h_t_state h_t_images h_t_isKept h_t_pad h_t_row h_t_isUsed h_t_table t_said t_leastSize t_leastSet t_found t_rank t_determinant q_4.1 v1 v2 q_5 hq_5) (cwV 2 hts gX6_comesTo_X6_renumbered rfl rfl rfl ⟨rfl, hdX6_renumbered⟩ ⟨(Nat.le_of_ble_eq_true rfl), (Nat.le_of_ble_eq_true rfl)⟩) hK hN hP hD hS hA [0, 1] [2] [1, 2, 0] rfl rfl rfl rfl (by decide) rfl rfl rfl rfl rfl rfl hl.1 rfl (Nat.le_of_ble_eq_true rfl) rfl dX6_comesTo_42 ⟨Nat.zero_le _, Nat.zero_le _⟩ (fun H locs hP hD hS => ?_)
        refine lv_istore (lv' := [(8, .int q_5), (0, .ref h_t), (1, .int v1), (2, .int v2), (4, .int v4), (5, .int v5), (6, .int v6), (7, .int v7)]) hx hb dX6_comesTo_45 hl (by decide) rfl (fun ls hl => ?_)
        refine lv_iload hx hb dX6_comesTo_47 (lv_at hl 6 rfl) ?_
        refine lv_iload hx hb dX6_comesTo_49 (lv_at hl 4 rfl) ?_
        refine lv_if_eq (tgt := 64) hx hb dX6_comesTo_51 (by decide) (fun c_6 => ?_) (fun c_6 => ?_)
        · have hM := on_pos c_6 hM
          refine lv_iload hx hb dX6_comesTo_64 (lv_at hl 0 rfl) ?_
          refine lv_iload hx hb dX6_comesTo_66 (lv_at hl 5 rfl) ?_
          refine lv_icmp_ne (tgt := 75) hx hb dX6_comesTo_68 (by decide) (fun c_7 => ?_) (fun c_7 => ?_)
          · have hM := on_neg c_7 hM
            refine lv_iconst (v := 0) hx hb dX6_comesTo_75 (by decide) ?_
            refine lv_iadd hx hb dX6_comesTo_76 ?_
            refine lv_topi (fun v6_8 ev6_8 => ?_)
            have hM := on_letE ev6_8 hM
            refine lv_istore (lv' := [(6, .int v6_8), (8, .int q_5), (0, .ref h_t), (1, .int v1), (2, .int v2), (4, .int v4), (5, .int v5), (7, .int v7)]) hx hb dX6_comesTo_77 hl (by decide) rfl (fun ls hl => ?_)
            obtain ⟨v7_9, ev7_9⟩ : ∃ z : Int32, z = v7 + 1 := ⟨_, rfl⟩
            have hM := on_letE ev7_9 hM
            refine lv_iinc (v := v7_9) (lv' := [(7, .int v7_9), (6, .int v6_8), (8, .int q_5), (0, .ref h_t), (1, .int v1), (2, .int v2), (4, .int v4), (5, .int v5)]) hx hb dX6_comesTo_79 hl (k := 7) rfl (by rw [ev7_9]; rfl) (by decide) rfl (fun ls hl => ?_)
            refine lv_goto (tgt := 23) hx hb dX6_comesTo_82 (by decide) ?_
            have hk := on_nxL hM hk
            exact ih v6_8 v7_9 q_4.1 q_4.2 _ hk K1 _ _ hP hD hS ls (lv_sub hl [3, 4, 5, 6, 7, 1, 0] rfl)
          · have hM := on_pos c_7 hM
            refine lv_iconst (v := 1) hx hb dX6_comesTo_71 (by decide) ?_
            refine lv_goto (tgt := 76) hx hb dX6_comesTo_72 (by decide) ?_
            refine lv_iadd hx hb dX6_comesTo_76 ?_
            refine lv_topi (fun v6_10 ev6_10 => ?_)
            have hM := on_letE ev6_10 hM
            refine lv_istore (lv' := [(6, .int v6_10), (8, .int q_5), (0, .ref h_t), (1, .int v1), (2, .int v2), (4, .int v4), (5, .int v5), (7, .int v7)]) hx hb dX6_comesTo_77 hl (by decide) rfl (fun ls hl => ?_)
            obtain ⟨v7_11, ev7_11⟩ : ∃ z : Int32, z = v7 + 1 := ⟨_, rfl⟩
            have hM := on_letE ev7_11 hM
            refine lv_iinc (v := v7_11) (lv' := [(7, .int v7_11), (6, .int v6_10), (8, .int q_5), (0, .ref h_t), (1, .int v1), (2, .int v2), (4, .int v4), (5, .int v5)]) hx hb dX6_comesTo_79 hl (k := 7) rfl (by rw [ev7_11]; rfl) (by decide) rfl (fun ls hl => ?_)
            refine lv_goto (tgt := 23) hx hb dX6_comesTo_82 (by decide) ?_
            have hk := on_nxL hM hk
            exact ih v6_10 v7_11 q_4.1 q_4.2 _ hk K1 _ _ hP hD hS ls (lv_sub hl [3, 4, 5, 6, 7, 1, 0] rfl)
        · have hM := on_neg c_6 hM
          refine lv_iload_n hx hb dX6_comesTo_54 rfl (lv_at hl 2 rfl) ?_
          refine lv_iload hx hb dX6_comesTo_55 (lv_at hl 0 rfl) ?_
          refine lv_iconst (v := 0) hx hb dX6_comesTo_57 (by decide) ?_
          obtain ⟨q_12, hq_12, hM⟩ := on_bind hM
          refine on_callS0 (rest := [.int v6]) (As := [.int v1, .int q_5, .int (0 : Int32)]) (st1 := [.int q_12, .int v6]) ⟨hx, hb, hml, hown, hts⟩ (k_X6_alone v1 q_5 (0 : Int32) q_12 hq_12) (va_cwS 3 hts gX6_comesTo_X6_alone rfl rfl rfl hdX6_alone ⟨(Nat.le_of_ble_eq_true rfl), (Nat.le_of_ble_eq_true rfl)⟩) hK hN hP hD hS hA rfl hl.1 rfl (Nat.le_of_ble_eq_true rfl) rfl dX6_comesTo_58 ⟨Nat.zero_le _, Nat.zero_le _⟩ (fun H locs hP hS => ?_)
          refine lv_goto (tgt := 66) hx hb dX6_comesTo_61 (by decide) ?_
          refine lv_iload hx hb dX6_comesTo_66 (lv_at hl 5 rfl) ?_
          refine lv_icmp_ne (tgt := 75) hx hb dX6_comesTo_68 (by decide) (fun c_13 => ?_) (fun c_13 => ?_)
          · have hM := on_neg c_13 hM
            refine lv_iconst (v := 0) hx hb dX6_comesTo_75 (by decide) ?_
            refine lv_iadd hx hb dX6_comesTo_76 ?_
            refine lv_topi (fun v6_14 ev6_14 => ?_)
            have hM := on_letE ev6_14 hM
            refine lv_istore (lv' := [(6, .int v6_14), (8, .int q_5), (0, .ref h_t), (1, .int v1), (2, .int v2), (4, .int v4), (5, .int v5), (7, .int v7)]) hx hb dX6_comesTo_77 hl (by decide) rfl (fun ls hl => ?_)
            obtain ⟨v7_15, ev7_15⟩ : ∃ z : Int32, z = v7 + 1 := ⟨_, rfl⟩
            have hM := on_letE ev7_15 hM
            refine lv_iinc (v := v7_15) (lv' := [(7, .int v7_15), (6, .int v6_14), (8, .int q_5), (0, .ref h_t), (1, .int v1), (2, .int v2), (4, .int v4), (5, .int v5)]) hx hb dX6_comesTo_79 hl (k := 7) rfl (by rw [ev7_15]; rfl) (by decide) rfl (fun ls hl => ?_)
            refine lv_goto (tgt := 23) hx hb dX6_comesTo_82 (by decide) ?_
            have hk := on_nxL hM hk
            exact ih v6_14 v7_15 q_4.1 q_4.2 _ hk K1 _ _ hP hD hS ls (lv_sub hl [3, 4, 5, 6, 7, 1, 0] rfl)
          · have hM := on_pos c_13 hM
            refine lv_iconst (v := 1) hx hb dX6_comesTo_71 (by decide) ?_
            refine lv_goto (tgt := 76) hx hb dX6_comesTo_72 (by decide) ?_
            refine lv_iadd hx hb dX6_comesTo_76 ?_
            refine lv_topi (fun v6_16 ev6_16 => ?_)
            have hM := on_letE ev6_16 hM
            refine lv_istore (lv' := [(6, .int v6_16), (8, .int q_5), (0, .ref h_t), (1, .int v1), (2, .int v2), (4, .int v4), (5, .int v5), (7, .int v7)]) hx hb dX6_comesTo_77 hl (by decide) rfl (fun ls hl => ?_)
            obtain ⟨v7_17, ev7_17⟩ : ∃ z : Int32, z = v7 + 1 := ⟨_, rfl⟩
            have hM := on_letE ev7_17 hM
            refine lv_iinc (v := v7_17) (lv' := [(7, .int v7_17), (6, .int v6_16), (8, .int q_5), (0, .ref h_t), (1, .int v1), (2, .int v2), (4, .int v4), (5, .int v5)]) hx hb dX6_comesTo_79 hl (k := 7) rfl (by rw [ev7_17]; rfl) (by decide) rfl (fun ls hl => ?_)
            refine lv_goto (tgt := 23) hx hb dX6_comesTo_82 (by decide) ?_
            have hk := on_nxL hM hk
            exact ih v6_16 v7_17 q_4.1 q_4.2 _ hk K1 _ _ hP hD hS ls (lv_sub hl [3, 4, 5, 6, 7, 1, 0] rfl)
  refine lv_iload hx hb dX6_comesTo_0 (lv_at hl 4 rfl) ?_
  refine lv_if_eq (tgt := 14) hx hb dX6_comesTo_2 (by decide) (fun c_1 => ?_) (fun c_1 => ?_)
  · have hM := on_pos c_1 hM
    refine lv_iload_n hx hb dX6_comesTo_14 rfl (lv_at hl 3 rfl) ?_
    refine lv_istore (lv' := [(5, .int v3), (0, .ref h_t), (1, .int v1), (2, .int v2), (3, .int v3), (4, .int v4)]) hx hb dX6_comesTo_15 hl (by decide) rfl (fun ls hl => ?_)
    refine lv_iconst (v := 0) hx hb dX6_comesTo_17 (by decide) ?_
    refine lv_istore (lv' := [(6, .int (0 : Int32)), (5, .int v3), (0, .ref h_t), (1, .int v1), (2, .int v2), (3, .int v3), (4, .int v4)]) hx hb dX6_comesTo_18 hl (by decide) rfl (fun ls hl => ?_)
    refine lv_iconst (v := 0) hx hb dX6_comesTo_20 (by decide) ?_
    refine lv_istore (lv' := [(7, .int (0 : Int32)), (6, .int (0 : Int32)), (5, .int v3), (0, .ref h_t), (1, .int v1), (2, .int v2), (3, .int v3), (4, .int v4)]) hx hb dX6_comesTo_21 hl (by decide) rfl (fun ls hl => ?_)
    obtain ⟨q_18, hq_18, hM⟩ := on_bind hM
    refine lp_23 v1 v2 v4 v3 on_F (0 : Int32) (0 : Int32) t_row t_isUsed q_18 hq_18 (fun H locs hP hD hS ls hl => ?_) H locs hP hD hS ls (lv_sub hl [3, 4, 5, 7, 2, 1, 0] rfl)
    refine lv_iload hx hb dX6_comesTo_85 (lv_at hl 0 rfl) ?_
    have hM := Option.some.inj hM
    subst hM
    rw [← hQ]
    exact on_iret hx hb hr hlk hP hD hS dX6_comesTo_87
  · have hM := on_neg c_1 hM
    refine lv_iload_n hx hb dX6_comesTo_5 rfl (lv_at hl 1 rfl) ?_
    refine lv_iload_n hx hb dX6_comesTo_6 rfl (lv_at hl 3 rfl) ?_
    refine lv_iconst (v := 0) hx hb dX6_comesTo_7 (by decide) ?_
    obtain ⟨q_19, hq_19, hM⟩ := on_bind hM
    refine on_callS0 (rest := []) (As := [.int v1, .int v3, .int (0 : Int32)]) (st1 := [.int q_19]) ⟨hx, hb, hml, hown, hts⟩ (k_X6_alone v1 v3 (0 : Int32) q_19 hq_19) (va_cwS 3 hts gX6_comesTo_X6_alone rfl rfl rfl hdX6_alone ⟨(Nat.le_of_ble_eq_true rfl), (Nat.le_of_ble_eq_true rfl)⟩) hK hN hP hD hS hA rfl hl.1 rfl (Nat.le_of_ble_eq_true rfl) rfl dX6_comesTo_8 ⟨Nat.zero_le _, Nat.zero_le _⟩ (fun H locs hP hS => ?_)
    refine lv_goto (tgt := 15) hx hb dX6_comesTo_11 (by decide) ?_
    refine lv_istore (lv' := [(5, .int q_19), (0, .ref h_t), (1, .int v1), (2, .int v2), (3, .int v3), (4, .int v4)]) hx hb dX6_comesTo_15 hl (by decide) rfl (fun ls hl => ?_)
    refine lv_iconst (v := 0) hx hb dX6_comesTo_17 (by decide) ?_
    refine lv_istore (lv' := [(6, .int (0 : Int32)), (5, .int q_19), (0, .ref h_t), (1, .int v1), (2, .int v2), (3, .int v3), (4, .int v4)]) hx hb dX6_comesTo_18 hl (by decide) rfl (fun ls hl => ?_)
    refine lv_iconst (v := 0) hx hb dX6_comesTo_20 (by decide) ?_
    refine lv_istore (lv' := [(7, .int (0 : Int32)), (6, .int (0 : Int32)), (5, .int q_19), (0, .ref h_t), (1, .int v1), (2, .int v2), (3, .int v3), (4, .int v4)]) hx hb dX6_comesTo_21 hl (by decide) rfl (fun ls hl => ?_)
    obtain ⟨q_20, hq_20, hM⟩ := on_bind hM
    refine lp_23 v1 v2 v4 q_19 on_F (0 : Int32) (0 : Int32) t_row t_isUsed q_20 hq_20 (fun H locs hP hD hS ls hl => ?_) H locs hP hD hS ls (lv_sub hl [3, 4, 5, 7, 2, 1, 0] rfl)
    refine lv_iload hx hb dX6_comesTo_85 (lv_at hl 0 rfl) ?_
    have hM := Option.some.inj hM
    subst hM
    rw [← hQ]
    exact on_iret hx hb hr hlk hP hD hS dX6_comesTo_87
abbrev rm_X6_setBetween : Room := { frames := 4, cells := 0, slots := 0, locals := 92 }
set_option maxHeartbeats 4000000 in
set_option maxRecDepth 100000 in
theorem k_X6_setBetween {l : Launch} {D : va_G} {cI cJ cZ cS cA : ClassId} (h_t : Nat) (h_t_state : Nat) (h_t_images : Nat) (h_t_isKept : Nat) (h_t_pad : Nat) (h_t_row : Nat) (h_t_isUsed : Nat) (h_t_table : Nat) (t_said : Int32) (t_leastSize : Int32) (t_leastSet : Int32) (t_found : Int32) (t_rank : Int32) (t_determinant : Int64) (t_state : Nat → Int32) (v1 : Int32) (v2 : Int32) (out : Int32) (hM : M_X6_setBetween v1 v2 t_state = some out) : on_Con l yX6_setBetween wsX6_setBetween rm_X6_setBetween [.ref h_t, .int v1, .int v2] D (on_T cI cJ cZ cS cA) [(h_t, .inr (6, [.ref h_t_state, .ref h_t_images, .ref h_t_isKept, .ref h_t_pad, .int t_said, .int t_leastSize, .int t_leastSet, .int t_found, .ref h_t_row, .ref h_t_isUsed, .ref h_t_table, .int t_rank, .long t_determinant])), (h_t_state, .inl (cI, 4, .inl t_state))] (some (.int out)) [(h_t, .inr (6, [.ref h_t_state, .ref h_t_images, .ref h_t_isKept, .ref h_t_pad, .int t_said, .int t_leastSize, .int t_leastSet, .int t_found, .ref h_t_row, .ref h_t_isUsed, .ref h_t_table, .int t_rank, .long t_determinant])), (h_t_state, .inl (cI, 4, .inl t_state))] := by
  unfold M_X6_setBetween at hM
  refine on_enter (cc := cX6_setBetween) (nL := 4) (rt := (some .int)) (own := RX6) (by decide +kernel) rfl rfl (Nat.le_of_ble_eq_true rfl) ?_
  intro p e s m below meth c A ls hx hb hml hr hlk hts hown hA hK hN H locs hP hD hS hl
  have hl : lv_has ls 4 [(0, .ref h_t), (1, .int v1), (2, .int v2)] := hl
  generalize hQ : MQ below (on_Q D (some (.int out)) [(h_t, .inr (6, [.ref h_t_state, .ref h_t_images, .ref h_t_isKept, .ref h_t_pad, .int t_said, .int t_leastSize, .int t_leastSet, .int t_found, .ref h_t_row, .ref h_t_isUsed, .ref h_t_table, .int t_rank, .long t_determinant])), (h_t_state, .inl (cI, 4, .inl t_state))] A) _ s 0 0 A = Q
  generalize hAr : List.toArray ([.ref h_t, .int v1, .int v2] : List Value) = args at hts hQ ⊢
  refine lv_aload_n hx hb dX6_setBetween_0 rfl (lv_at hl 0 rfl) ?_
  obtain ⟨q_1, hq_1, hM⟩ := on_bind hM
  refine on_callV (rest := []) (As := []) (st1 := [.int q_1]) (C := RX6) (ci := 6) (q0 := 0) (wc := [(h_t, .inr (6, [.ref h_t_state, .ref h_t_images, .ref h_t_isKept, .ref h_t_pad, .int t_said, .int t_leastSize, .int t_leastSet, .int t_found, .ref h_t_row, .ref h_t_isUsed, .ref h_t_table, .int t_rank, .long t_determinant])), (h_t_state, .inl (cI, 4, .inl t_state))]) (wr := []) (wc' := [(h_t, .inr (6, [.ref h_t_state, .ref h_t_images, .ref h_t_isKept, .ref h_t_pad, .int t_said, .int t_leastSize, .int t_leastSet, .int t_found, .ref h_t_row, .ref h_t_isUsed, .ref h_t_table, .int t_rank, .long t_determinant])), (h_t_state, .inl (cI, 4, .inl t_state))]) (wf := [(h_t, .inr (6, [.ref h_t_state, .ref h_t_images, .ref h_t_isKept, .ref h_t_pad, .int t_said, .int t_leastSize, .int t_leastSet, .int t_found, .ref h_t_row, .ref h_t_isUsed, .ref h_t_table, .int t_rank, .long t_determinant])), (h_t_state, .inl (cI, 4, .inl t_state))]) (rt := (some (.int q_1))) ⟨hx, hb, hml, hown, hts⟩ (k_X6_many h_t h_t_state h_t_images h_t_isKept h_t_pad h_t_row h_t_isUsed h_t_table t_said t_leastSize t_leastSet t_found t_rank t_determinant t_state q_1 hq_1) (cwV 0 hts gX6_setBetween_X6_many rfl rfl rfl ⟨rfl, hdX6_many⟩ ⟨(Nat.le_of_ble_eq_true rfl), (Nat.le_of_ble_eq_true rfl)⟩) hK hN hP hD hS hA [0, 1] [] [0, 1] rfl rfl rfl rfl (by decide) rfl rfl rfl rfl rfl rfl hl.1 rfl (Nat.le_of_ble_eq_true rfl) rfl dX6_setBetween_1 ⟨Nat.zero_le _, Nat.zero_le _⟩ (fun H locs hP hD hS => ?_)
  refine lv_iload_n hx hb dX6_setBetween_4 rfl (lv_at hl 1 rfl) ?_
  refine lv_iload_n hx hb dX6_setBetween_5 rfl (lv_at hl 2 rfl) ?_
  refine lv_ixor hx hb dX6_setBetween_6 ?_
  refine lv_iconst (v := 0) hx hb dX6_setBetween_7 (by decide) ?_
  obtain ⟨q_2, hq_2, hM⟩ := on_bind hM
  refine on_callS0 (rest := []) (As := [.int q_1, .int (v1 ^^^ v2), .int (0 : Int32)]) (st1 := [.int q_2]) ⟨hx, hb, hml, hown, hts⟩ (k_X6_neighbours q_1 (v1 ^^^ v2) (0 : Int32) q_2 hq_2) (va_cwS 3 hts gX6_setBetween_X6_neighbours rfl rfl rfl hdX6_neighbours ⟨(Nat.le_of_ble_eq_true rfl), (Nat.le_of_ble_eq_true rfl)⟩) hK hN hP hD hS hA rfl hl.1 rfl (Nat.le_of_ble_eq_true rfl) rfl dX6_setBetween_8 ⟨Nat.zero_le _, Nat.zero_le _⟩ (fun H locs hP hS => ?_)
  refine lv_istore_n (lv' := [(3, .int q_2), (0, .ref h_t), (1, .int v1), (2, .int v2)]) hx hb dX6_setBetween_11 rfl hl (by decide) rfl (fun ls hl => ?_)
  refine lv_aload_n hx hb dX6_setBetween_12 rfl (lv_at hl 1 rfl) ?_
  obtain ⟨q_3, hq_3, hM⟩ := on_bind hM
  refine on_callV (rest := []) (As := []) (st1 := [.int q_3]) (C := RX6) (ci := 6) (q0 := 0) (wc := [(h_t, .inr (6, [.ref h_t_state, .ref h_t_images, .ref h_t_isKept, .ref h_t_pad, .int t_said, .int t_leastSize, .int t_leastSet, .int t_found, .ref h_t_row, .ref h_t_isUsed, .ref h_t_table, .int t_rank, .long t_determinant])), (h_t_state, .inl (cI, 4, .inl t_state))]) (wr := []) (wc' := [(h_t, .inr (6, [.ref h_t_state, .ref h_t_images, .ref h_t_isKept, .ref h_t_pad, .int t_said, .int t_leastSize, .int t_leastSet, .int t_found, .ref h_t_row, .ref h_t_isUsed, .ref h_t_table, .int t_rank, .long t_determinant])), (h_t_state, .inl (cI, 4, .inl t_state))]) (wf := [(h_t, .inr (6, [.ref h_t_state, .ref h_t_images, .ref h_t_isKept, .ref h_t_pad, .int t_said, .int t_leastSize, .int t_leastSet, .int t_found, .ref h_t_row, .ref h_t_isUsed, .ref h_t_table, .int t_rank, .long t_determinant])), (h_t_state, .inl (cI, 4, .inl t_state))]) (rt := (some (.int q_3))) ⟨hx, hb, hml, hown, hts⟩ (k_X6_many h_t h_t_state h_t_images h_t_isKept h_t_pad h_t_row h_t_isUsed h_t_table t_said t_leastSize t_leastSet t_found t_rank t_determinant t_state q_3 hq_3) (cwV 0 hts gX6_setBetween_X6_many rfl rfl rfl ⟨rfl, hdX6_many⟩ ⟨(Nat.le_of_ble_eq_true rfl), (Nat.le_of_ble_eq_true rfl)⟩) hK hN hP hD hS hA [0, 1] [] [0, 1] rfl rfl rfl rfl (by decide) rfl rfl rfl rfl rfl rfl hl.1 rfl (Nat.le_of_ble_eq_true rfl) rfl dX6_setBetween_13 ⟨Nat.zero_le _, Nat.zero_le _⟩ (fun H locs hP hD hS => ?_)
  refine lv_iload_n hx hb dX6_setBetween_16 rfl (lv_at hl 2 rfl) ?_
  refine lv_iload_n hx hb dX6_setBetween_17 rfl (lv_at hl 0 rfl) ?_
  obtain ⟨q_4, hq_4, hM⟩ := on_bind hM
  refine on_callS0 (rest := []) (As := [.int q_3, .int v1, .int q_2]) (st1 := [.int q_4]) ⟨hx, hb, hml, hown, hts⟩ (k_X6_switched q_3 v1 q_2 q_4 hq_4) (va_cwS 3 hts gX6_setBetween_X6_switched rfl rfl rfl hdX6_switched ⟨(Nat.le_of_ble_eq_true rfl), (Nat.le_of_ble_eq_true rfl)⟩) hK hN hP hD hS hA rfl hl.1 rfl (Nat.le_of_ble_eq_true rfl) rfl dX6_setBetween_18 ⟨Nat.zero_le _, Nat.zero_le _⟩ (fun H locs hP hS => ?_)
  refine lv_iload_n hx hb dX6_setBetween_21 rfl (lv_at hl 3 rfl) ?_
  refine lv_icmp_ne (tgt := 29) hx hb dX6_setBetween_22 (by decide) (fun c_5 => ?_) (fun c_5 => ?_)
  · have hM := on_neg c_5 hM
    refine lv_bipush (v := -6) hx hb dX6_setBetween_29 (by decide) ?_
    have hM := Option.some.inj hM
    subst hM
    rw [← hQ]
    exact on_iret hx hb hr hlk hP hD hS dX6_setBetween_31
  · have hM := on_pos c_5 hM
    refine lv_iload_n hx hb dX6_setBetween_25 rfl (lv_at hl 0 rfl) ?_
    refine lv_goto (tgt := 31) hx hb dX6_setBetween_26 (by decide) ?_
    have hM := Option.some.inj hM
    subst hM
    rw [← hQ]
    exact on_iret hx hb hr hlk hP hD hS dX6_setBetween_31
abbrev rm_X6_compare : Room := { frames := 6, cells := 0, slots := 0, locals := 142 }
set_option maxHeartbeats 4000000 in
set_option maxRecDepth 100000 in
theorem k_X6_compare {l : Launch} {D : va_G} {cI cJ cZ cS cA : ClassId} (h_t : Nat) (h_t_state : Nat) (h_t_images : Nat) (h_t_isKept : Nat) (h_t_pad : Nat) (h_t_row : Nat) (h_t_isUsed : Nat) (h_t_table : Nat) (t_said : Int32) (t_leastSize : Int32) (t_leastSet : Int32) (t_found : Int32) (t_rank : Int32) (t_determinant : Int64) (t_state : Nat → Int32) (t_row : Nat → Int32) (t_isUsed : Nat → Int32) (v1 : Int32) (v2 : Int32) (v3 : Int32) (out : Int32 × (Nat → Int32) × (Nat → Int32)) (hM : M_X6_compare v1 v2 v3 t_state t_row t_isUsed = some out) : on_Con l yX6_compare wsX6_compare rm_X6_compare [.ref h_t, .int v1, .int v2, .int v3] D (on_T cI cJ cZ cS cA) [(h_t, .inr (6, [.ref h_t_state, .ref h_t_images, .ref h_t_isKept, .ref h_t_pad, .int t_said, .int t_leastSize, .int t_leastSet, .int t_found, .ref h_t_row, .ref h_t_isUsed, .ref h_t_table, .int t_rank, .long t_determinant])), (h_t_state, .inl (cI, 4, .inl t_state)), (h_t_row, .inl (cI, 7, .inl t_row)), (h_t_isUsed, .inl (cZ, 7, .inl t_isUsed))] (some (.int out.1)) [(h_t, .inr (6, [.ref h_t_state, .ref h_t_images, .ref h_t_isKept, .ref h_t_pad, .int t_said, .int t_leastSize, .int t_leastSet, .int t_found, .ref h_t_row, .ref h_t_isUsed, .ref h_t_table, .int t_rank, .long t_determinant])), (h_t_state, .inl (cI, 4, .inl t_state)), (h_t_row, .inl (cI, 7, .inl out.2.1)), (h_t_isUsed, .inl (cZ, 7, .inl out.2.2))] := by
  unfold M_X6_compare at hM
  refine on_enter (cc := cX6_compare) (nL := 6) (rt := (some .int)) (own := RX6) (by decide +kernel) rfl rfl (Nat.le_of_ble_eq_true rfl) ?_
  intro p e s m below meth c A ls hx hb hml hr hlk hts hown hA hK hN H locs hP hD hS hl
  have hl : lv_has ls 6 [(0, .ref h_t), (1, .int v1), (2, .int v2), (3, .int v3)] := hl
  generalize hQ : MQ below (on_Q D (some (.int out.1)) [(h_t, .inr (6, [.ref h_t_state, .ref h_t_images, .ref h_t_isKept, .ref h_t_pad, .int t_said, .int t_leastSize, .int t_leastSet, .int t_found, .ref h_t_row, .ref h_t_isUsed, .ref h_t_table, .int t_rank, .long t_determinant])), (h_t_state, .inl (cI, 4, .inl t_state)), (h_t_row, .inl (cI, 7, .inl out.2.1)), (h_t_isUsed, .inl (cZ, 7, .inl out.2.2))] A) _ s 0 0 A = Q
  generalize hAr : List.toArray ([.ref h_t, .int v1, .int v2, .int v3] : List Value) = args at hts hQ ⊢
  refine lv_iload_n hx hb dX6_compare_0 rfl (lv_at hl 1 rfl) ?_
  obtain ⟨q_1, hq_1, hM⟩ := on_bind hM
  refine on_callS0 (rest := []) (As := [.int v1]) (st1 := [.int q_1]) ⟨hx, hb, hml, hown, hts⟩ (k_X6_isSlot v1 q_1 hq_1) (va_cwS 1 hts gX6_compare_X6_isSlot rfl rfl rfl hdX6_isSlot ⟨(Nat.le_of_ble_eq_true rfl), (Nat.le_of_ble_eq_true rfl)⟩) hK hN hP hD hS hA rfl hl.1 rfl (Nat.le_of_ble_eq_true rfl) rfl dX6_compare_1 ⟨Nat.zero_le _, Nat.zero_le _⟩ (fun H locs hP hS => ?_)
  refine lv_if_eq (tgt := 14) hx hb dX6_compare_4 (by decide) (fun c_2 => ?_) (fun c_2 => ?_)
  · have hM := on_pos c_2 hM
    refine lv_iconst (v := -1) hx hb dX6_compare_14 (by decide) ?_
    have hM := Option.some.inj hM
    subst hM
    rw [← hQ]
    exact on_iret hx hb hr hlk hP hD hS dX6_compare_15
  · have hM := on_neg c_2 hM
    refine lv_iload_n hx hb dX6_compare_7 rfl (lv_at hl 2 rfl) ?_
    obtain ⟨q_3, hq_3, hM⟩ := on_bind hM
    refine on_callS0 (rest := []) (As := [.int v2]) (st1 := [.int q_3]) ⟨hx, hb, hml, hown, hts⟩ (k_X6_isSlot v2 q_3 hq_3) (va_cwS 1 hts gX6_compare_X6_isSlot rfl rfl rfl hdX6_isSlot ⟨(Nat.le_of_ble_eq_true rfl), (Nat.le_of_ble_eq_true rfl)⟩) hK hN hP hD hS hA rfl hl.1 rfl (Nat.le_of_ble_eq_true rfl) rfl dX6_compare_8 ⟨Nat.zero_le _, Nat.zero_le _⟩ (fun H locs hP hS => ?_)
    refine lv_if_ne (tgt := 16) hx hb dX6_compare_11 (by decide) (fun c_4 => ?_) (fun c_4 => ?_)
    · have hM := on_neg c_4 hM
      refine lv_aload_n hx hb dX6_compare_16 rfl (lv_at hl 0 rfl) ?_
      refine lv_iload_n hx hb dX6_compare_17 rfl (lv_at hl 1 rfl) ?_
      obtain ⟨q_5, hq_5, hM⟩ := on_bind hM
      refine on_callV (rest := []) (As := [.int v1]) (st1 := [.int q_5]) (C := RX6) (ci := 6) (q0 := 0) (wc := [(h_t, .inr (6, [.ref h_t_state, .ref h_t_images, .ref h_t_isKept, .ref h_t_pad, .int t_said, .int t_leastSize, .int t_leastSet, .int t_found, .ref h_t_row, .ref h_t_isUsed, .ref h_t_table, .int t_rank, .long t_determinant])), (h_t_state, .inl (cI, 4, .inl t_state))]) (wr := [(h_t_row, .inl (cI, 7, .inl t_row)), (h_t_isUsed, .inl (cZ, 7, .inl t_isUsed))]) (wc' := [(h_t, .inr (6, [.ref h_t_state, .ref h_t_images, .ref h_t_isKept, .ref h_t_pad, .int t_said, .int t_leastSize, .int t_leastSet, .int t_found, .ref h_t_row, .ref h_t_isUsed, .ref h_t_table, .int t_rank, .long t_determinant])), (h_t_state, .inl (cI, 4, .inl t_state))]) (wf := [(h_t, .inr (6, [.ref h_t_state, .ref h_t_images, .ref h_t_isKept, .ref h_t_pad, .int t_said, .int t_leastSize, .int t_leastSet, .int t_found, .ref h_t_row, .ref h_t_isUsed, .ref h_t_table, .int t_rank, .long t_determinant])), (h_t_state, .inl (cI, 4, .inl t_state)), (h_t_row, .inl (cI, 7, .inl t_row)), (h_t_isUsed, .inl (cZ, 7, .inl t_isUsed))]) (rt := (some (.int q_5))) ⟨hx, hb, hml, hown, hts⟩ (k_X6_netOf h_t h_t_state h_t_images h_t_isKept h_t_pad h_t_row h_t_isUsed h_t_table t_said t_leastSize t_leastSet t_found t_rank t_determinant t_state v1 q_5 hq_5) (cwV 1 hts gX6_compare_X6_netOf rfl rfl rfl ⟨rfl, hdX6_netOf⟩ ⟨(Nat.le_of_ble_eq_true rfl), (Nat.le_of_ble_eq_true rfl)⟩) hK hN hP hD hS hA [0, 1] [2, 3] [2, 3, 0, 1] rfl rfl rfl rfl (by decide) rfl rfl rfl rfl rfl rfl hl.1 rfl (Nat.le_of_ble_eq_true rfl) rfl dX6_compare_18 ⟨Nat.zero_le _, Nat.zero_le _⟩ (fun H locs hP hD hS => ?_)
      refine lv_istore (lv' := [(4, .int q_5), (0, .ref h_t), (1, .int v1), (2, .int v2), (3, .int v3)]) hx hb dX6_compare_21 hl (by decide) rfl (fun ls hl => ?_)
      refine lv_aload_n hx hb dX6_compare_23 rfl (lv_at hl 1 rfl) ?_
      refine lv_iload_n hx hb dX6_compare_24 rfl (lv_at hl 3 rfl) ?_
      obtain ⟨q_6, hq_6, hM⟩ := on_bind hM
      refine on_callV (rest := []) (As := [.int v2]) (st1 := [.int q_6]) (C := RX6) (ci := 6) (q0 := 0) (wc := [(h_t, .inr (6, [.ref h_t_state, .ref h_t_images, .ref h_t_isKept, .ref h_t_pad, .int t_said, .int t_leastSize, .int t_leastSet, .int t_found, .ref h_t_row, .ref h_t_isUsed, .ref h_t_table, .int t_rank, .long t_determinant])), (h_t_state, .inl (cI, 4, .inl t_state))]) (wr := [(h_t_row, .inl (cI, 7, .inl t_row)), (h_t_isUsed, .inl (cZ, 7, .inl t_isUsed))]) (wc' := [(h_t, .inr (6, [.ref h_t_state, .ref h_t_images, .ref h_t_isKept, .ref h_t_pad, .int t_said, .int t_leastSize, .int t_leastSet, .int t_found, .ref h_t_row, .ref h_t_isUsed, .ref h_t_table, .int t_rank, .long t_determinant])), (h_t_state, .inl (cI, 4, .inl t_state))]) (wf := [(h_t, .inr (6, [.ref h_t_state, .ref h_t_images, .ref h_t_isKept, .ref h_t_pad, .int t_said, .int t_leastSize, .int t_leastSet, .int t_found, .ref h_t_row, .ref h_t_isUsed, .ref h_t_table, .int t_rank, .long t_determinant])), (h_t_state, .inl (cI, 4, .inl t_state)), (h_t_row, .inl (cI, 7, .inl t_row)), (h_t_isUsed, .inl (cZ, 7, .inl t_isUsed))]) (rt := (some (.int q_6))) ⟨hx, hb, hml, hown, hts⟩ (k_X6_netOf h_t h_t_state h_t_images h_t_isKept h_t_pad h_t_row h_t_isUsed h_t_table t_said t_leastSize t_leastSet t_found t_rank t_determinant t_state v2 q_6 hq_6) (cwV 1 hts gX6_compare_X6_netOf rfl rfl rfl ⟨rfl, hdX6_netOf⟩ ⟨(Nat.le_of_ble_eq_true rfl), (Nat.le_of_ble_eq_true rfl)⟩) hK hN hP hD hS hA [0, 1] [2, 3] [2, 3, 0, 1] rfl rfl rfl rfl (by decide) rfl rfl rfl rfl rfl rfl hl.1 rfl (Nat.le_of_ble_eq_true rfl) rfl dX6_compare_25 ⟨Nat.zero_le _, Nat.zero_le _⟩ (fun H locs hP hD hS => ?_)
      refine lv_istore (lv' := [(5, .int q_6), (4, .int q_5), (0, .ref h_t), (1, .int v1), (2, .int v2), (3, .int v3)]) hx hb dX6_compare_28 hl (by decide) rfl (fun ls hl => ?_)
      refine lv_iload_n hx hb dX6_compare_30 rfl (lv_at hl 5 rfl) ?_
      by_cases c_16 : v3 = 0
      · have hM := on_pos c_16 hM
        refine lv_tableIn (tgt := 60) hx hb dX6_compare_31 (by rw [c_16]; decide) (by rw [c_16]; decide) (by rw [c_16]; rfl) (by decide) ?_
        refine lv_aload_n hx hb dX6_compare_60 rfl (lv_at hl 2 rfl) ?_
        refine lv_iload hx hb dX6_compare_61 (lv_at hl 1 rfl) ?_
        refine lv_iload hx hb dX6_compare_63 (lv_at hl 0 rfl) ?_
        obtain ⟨q_7, hq_7, hM⟩ := on_bind hM
        refine on_callV (rest := []) (As := [.int q_5, .int q_6]) (st1 := [.int q_7]) (C := RX6) (ci := 6) (q0 := 0) (wc := [(h_t, .inr (6, [.ref h_t_state, .ref h_t_images, .ref h_t_isKept, .ref h_t_pad, .int t_said, .int t_leastSize, .int t_leastSet, .int t_found, .ref h_t_row, .ref h_t_isUsed, .ref h_t_table, .int t_rank, .long t_determinant])), (h_t_state, .inl (cI, 4, .inl t_state))]) (wr := [(h_t_row, .inl (cI, 7, .inl t_row)), (h_t_isUsed, .inl (cZ, 7, .inl t_isUsed))]) (wc' := [(h_t, .inr (6, [.ref h_t_state, .ref h_t_images, .ref h_t_isKept, .ref h_t_pad, .int t_said, .int t_leastSize, .int t_leastSet, .int t_found, .ref h_t_row, .ref h_t_isUsed, .ref h_t_table, .int t_rank, .long t_determinant])), (h_t_state, .inl (cI, 4, .inl t_state))]) (wf := [(h_t, .inr (6, [.ref h_t_state, .ref h_t_images, .ref h_t_isKept, .ref h_t_pad, .int t_said, .int t_leastSize, .int t_leastSet, .int t_found, .ref h_t_row, .ref h_t_isUsed, .ref h_t_table, .int t_rank, .long t_determinant])), (h_t_state, .inl (cI, 4, .inl t_state)), (h_t_row, .inl (cI, 7, .inl t_row)), (h_t_isUsed, .inl (cZ, 7, .inl t_isUsed))]) (rt := (some (.int q_7))) ⟨hx, hb, hml, hown, hts⟩ (k_X6_setBetween h_t h_t_state h_t_images h_t_isKept h_t_pad h_t_row h_t_isUsed h_t_table t_said t_leastSize t_leastSet t_found t_rank t_determinant t_state q_5 q_6 q_7 hq_7) (cwV 2 hts gX6_compare_X6_setBetween rfl rfl rfl ⟨rfl, hdX6_setBetween⟩ ⟨(Nat.le_of_ble_eq_true rfl), (Nat.le_of_ble_eq_true rfl)⟩) hK hN hP hD hS hA [0, 1] [2, 3] [2, 3, 0, 1] rfl rfl rfl rfl (by decide) rfl rfl rfl rfl rfl rfl hl.1 rfl (Nat.le_of_ble_eq_true rfl) rfl dX6_compare_65 ⟨Nat.zero_le _, Nat.zero_le _⟩ (fun H locs hP hD hS => ?_)
        refine lv_if_lt (tgt := 75) hx hb dX6_compare_68 (by decide) (fun c_8 => ?_) (fun c_8 => ?_)
        · have hM := on_pos c_8 hM
          refine lv_iconst (v := 0) hx hb dX6_compare_75 (by decide) ?_
          have hM := Option.some.inj hM
          subst hM
          rw [← hQ]
          exact on_iret hx hb hr hlk hP hD hS dX6_compare_76
        · have hM := on_neg c_8 hM
          refine lv_iconst (v := 1) hx hb dX6_compare_71 (by decide) ?_
          refine lv_goto (tgt := 76) hx hb dX6_compare_72 (by decide) ?_
          have hM := Option.some.inj hM
          subst hM
          rw [← hQ]
          exact on_iret hx hb hr hlk hP hD hS dX6_compare_76
      · have hM := on_neg c_16 hM
        by_cases c_17 : v3 = 1
        · have hM := on_pos c_17 hM
          refine lv_tableIn (tgt := 77) hx hb dX6_compare_31 (by rw [c_17]; decide) (by rw [c_17]; decide) (by rw [c_17]; rfl) (by decide) ?_
          refine lv_aload_n hx hb dX6_compare_77 rfl (lv_at hl 2 rfl) ?_
          refine lv_iload hx hb dX6_compare_78 (lv_at hl 1 rfl) ?_
          refine lv_iload hx hb dX6_compare_80 (lv_at hl 0 rfl) ?_
          obtain ⟨q_9, hq_9, hM⟩ := on_bind hM
          refine on_callV (rest := []) (As := [.int q_5, .int q_6]) (st1 := [.int q_9]) (C := RX6) (ci := 6) (q0 := 0) (wc := [(h_t, .inr (6, [.ref h_t_state, .ref h_t_images, .ref h_t_isKept, .ref h_t_pad, .int t_said, .int t_leastSize, .int t_leastSet, .int t_found, .ref h_t_row, .ref h_t_isUsed, .ref h_t_table, .int t_rank, .long t_determinant])), (h_t_state, .inl (cI, 4, .inl t_state))]) (wr := [(h_t_row, .inl (cI, 7, .inl t_row)), (h_t_isUsed, .inl (cZ, 7, .inl t_isUsed))]) (wc' := [(h_t, .inr (6, [.ref h_t_state, .ref h_t_images, .ref h_t_isKept, .ref h_t_pad, .int t_said, .int t_leastSize, .int t_leastSet, .int t_found, .ref h_t_row, .ref h_t_isUsed, .ref h_t_table, .int t_rank, .long t_determinant])), (h_t_state, .inl (cI, 4, .inl t_state))]) (wf := [(h_t, .inr (6, [.ref h_t_state, .ref h_t_images, .ref h_t_isKept, .ref h_t_pad, .int t_said, .int t_leastSize, .int t_leastSet, .int t_found, .ref h_t_row, .ref h_t_isUsed, .ref h_t_table, .int t_rank, .long t_determinant])), (h_t_state, .inl (cI, 4, .inl t_state)), (h_t_row, .inl (cI, 7, .inl t_row)), (h_t_isUsed, .inl (cZ, 7, .inl t_isUsed))]) (rt := (some (.int q_9))) ⟨hx, hb, hml, hown, hts⟩ (k_X6_setBetween h_t h_t_state h_t_images h_t_isKept h_t_pad h_t_row h_t_isUsed h_t_table t_said t_leastSize t_leastSet t_found t_rank t_determinant t_state q_5 q_6 q_9 hq_9) (cwV 2 hts gX6_compare_X6_setBetween rfl rfl rfl ⟨rfl, hdX6_setBetween⟩ ⟨(Nat.le_of_ble_eq_true rfl), (Nat.le_of_ble_eq_true rfl)⟩) hK hN hP hD hS hA [0, 1] [2, 3] [2, 3, 0, 1] rfl rfl rfl rfl (by decide) rfl rfl rfl rfl rfl rfl hl.1 rfl (Nat.le_of_ble_eq_true rfl) rfl dX6_compare_82 ⟨Nat.zero_le _, Nat.zero_le _⟩ (fun H locs hP hD hS => ?_)
          have hM := Option.some.inj hM
          subst hM
          rw [← hQ]
          exact on_iret hx hb hr hlk hP hD hS dX6_compare_85
        · have hM := on_neg c_17 hM
          by_cases c_18 : v3 = 2
          · have hM := on_pos c_18 hM
            refine lv_tableIn (tgt := 86) hx hb dX6_compare_31 (by rw [c_18]; decide) (by rw [c_18]; decide) (by rw [c_18]; rfl) (by decide) ?_
            refine lv_aload_n hx hb dX6_compare_86 rfl (lv_at hl 2 rfl) ?_
            refine lv_aload_n hx hb dX6_compare_87 rfl (lv_at hl 2 rfl) ?_
            obtain ⟨q_10, hq_10, hM⟩ := on_bind hM
            refine on_callV (rest := [.ref h_t]) (As := []) (st1 := [.int q_10, .ref h_t]) (C := RX6) (ci := 6) (q0 := 0) (wc := [(h_t, .inr (6, [.ref h_t_state, .ref h_t_images, .ref h_t_isKept, .ref h_t_pad, .int t_said, .int t_leastSize, .int t_leastSet, .int t_found, .ref h_t_row, .ref h_t_isUsed, .ref h_t_table, .int t_rank, .long t_determinant])), (h_t_state, .inl (cI, 4, .inl t_state))]) (wr := [(h_t_row, .inl (cI, 7, .inl t_row)), (h_t_isUsed, .inl (cZ, 7, .inl t_isUsed))]) (wc' := [(h_t, .inr (6, [.ref h_t_state, .ref h_t_images, .ref h_t_isKept, .ref h_t_pad, .int t_said, .int t_leastSize, .int t_leastSet, .int t_found, .ref h_t_row, .ref h_t_isUsed, .ref h_t_table, .int t_rank, .long t_determinant])), (h_t_state, .inl (cI, 4, .inl t_state))]) (wf := [(h_t, .inr (6, [.ref h_t_state, .ref h_t_images, .ref h_t_isKept, .ref h_t_pad, .int t_said, .int t_leastSize, .int t_leastSet, .int t_found, .ref h_t_row, .ref h_t_isUsed, .ref h_t_table, .int t_rank, .long t_determinant])), (h_t_state, .inl (cI, 4, .inl t_state)), (h_t_row, .inl (cI, 7, .inl t_row)), (h_t_isUsed, .inl (cZ, 7, .inl t_isUsed))]) (rt := (some (.int q_10))) ⟨hx, hb, hml, hown, hts⟩ (k_X6_many h_t h_t_state h_t_images h_t_isKept h_t_pad h_t_row h_t_isUsed h_t_table t_said t_leastSize t_leastSet t_found t_rank t_determinant t_state q_10 hq_10) (cwV 0 hts gX6_compare_X6_many rfl rfl rfl ⟨rfl, hdX6_many⟩ ⟨(Nat.le_of_ble_eq_true rfl), (Nat.le_of_ble_eq_true rfl)⟩) hK hN hP hD hS hA [0, 1] [2, 3] [2, 3, 0, 1] rfl rfl rfl rfl (by decide) rfl rfl rfl rfl rfl rfl hl.1 rfl (Nat.le_of_ble_eq_true rfl) rfl dX6_compare_88 ⟨Nat.zero_le _, Nat.zero_le _⟩ (fun H locs hP hD hS => ?_)
            refine lv_iload hx hb dX6_compare_91 (lv_at hl 1 rfl) ?_
            refine lv_iload hx hb dX6_compare_93 (lv_at hl 0 rfl) ?_
            refine lv_iconst (v := 0) hx hb dX6_compare_95 (by decide) ?_
            obtain ⟨q_11, hq_11, hM⟩ := on_bind hM
            refine on_callV (rest := []) (As := [.int q_10, .int q_5, .int q_6, .int (0 : Int32)]) (st1 := [.int q_11.1]) (C := RX6) (ci := 6) (q0 := 0) (wc := [(h_t, .inr (6, [.ref h_t_state, .ref h_t_images, .ref h_t_isKept, .ref h_t_pad, .int t_said, .int t_leastSize, .int t_leastSet, .int t_found, .ref h_t_row, .ref h_t_isUsed, .ref h_t_table, .int t_rank, .long t_determinant])), (h_t_row, .inl (cI, 7, .inl t_row)), (h_t_isUsed, .inl (cZ, 7, .inl t_isUsed))]) (wr := [(h_t_state, .inl (cI, 4, .inl t_state))]) (wc' := [(h_t, .inr (6, [.ref h_t_state, .ref h_t_images, .ref h_t_isKept, .ref h_t_pad, .int t_said, .int t_leastSize, .int t_leastSet, .int t_found, .ref h_t_row, .ref h_t_isUsed, .ref h_t_table, .int t_rank, .long t_determinant])), (h_t_row, .inl (cI, 7, .inl q_11.2.1)), (h_t_isUsed, .inl (cZ, 7, .inl q_11.2.2))]) (wf := [(h_t, .inr (6, [.ref h_t_state, .ref h_t_images, .ref h_t_isKept, .ref h_t_pad, .int t_said, .int t_leastSize, .int t_leastSet, .int t_found, .ref h_t_row, .ref h_t_isUsed, .ref h_t_table, .int t_rank, .long t_determinant])), (h_t_state, .inl (cI, 4, .inl t_state)), (h_t_row, .inl (cI, 7, .inl q_11.2.1)), (h_t_isUsed, .inl (cZ, 7, .inl q_11.2.2))]) (rt := (some (.int q_11.1))) ⟨hx, hb, hml, hown, hts⟩ (k_X6_comesTo h_t h_t_state h_t_images h_t_isKept h_t_pad h_t_row h_t_isUsed h_t_table t_said t_leastSize t_leastSet t_found t_rank t_determinant t_row t_isUsed q_10 q_5 q_6 (0 : Int32) q_11 hq_11) (cwV 4 hts gX6_compare_X6_comesTo rfl rfl rfl ⟨rfl, hdX6_comesTo⟩ ⟨(Nat.le_of_ble_eq_true rfl), (Nat.le_of_ble_eq_true rfl)⟩) hK hN hP hD hS hA [0, 2, 3] [1] [1, 0, 2, 3] rfl rfl rfl rfl (by decide) rfl rfl rfl rfl rfl rfl hl.1 rfl (Nat.le_of_ble_eq_true rfl) rfl dX6_compare_96 ⟨Nat.zero_le _, Nat.zero_le _⟩ (fun H locs hP hD hS => ?_)
            refine lv_if_le (tgt := 106) hx hb dX6_compare_99 (by decide) (fun c_12 => ?_) (fun c_12 => ?_)
            · have hM := on_pos c_12 hM
              refine lv_iconst (v := 0) hx hb dX6_compare_106 (by decide) ?_
              have hM := Option.some.inj hM
              subst hM
              rw [← hQ]
              exact on_iret hx hb hr hlk hP hD hS dX6_compare_107
            · have hM := on_neg c_12 hM
              refine lv_iconst (v := 1) hx hb dX6_compare_102 (by decide) ?_
              refine lv_goto (tgt := 107) hx hb dX6_compare_103 (by decide) ?_
              have hM := Option.some.inj hM
              subst hM
              rw [← hQ]
              exact on_iret hx hb hr hlk hP hD hS dX6_compare_107
          · have hM := on_neg c_18 hM
            by_cases c_19 : v3 = 3
            · have hM := on_pos c_19 hM
              refine lv_tableIn (tgt := 108) hx hb dX6_compare_31 (by rw [c_19]; decide) (by rw [c_19]; decide) (by rw [c_19]; rfl) (by decide) ?_
              refine lv_aload_n hx hb dX6_compare_108 rfl (lv_at hl 2 rfl) ?_
              refine lv_aload_n hx hb dX6_compare_109 rfl (lv_at hl 2 rfl) ?_
              obtain ⟨q_13, hq_13, hM⟩ := on_bind hM
              refine on_callV (rest := [.ref h_t]) (As := []) (st1 := [.int q_13, .ref h_t]) (C := RX6) (ci := 6) (q0 := 0) (wc := [(h_t, .inr (6, [.ref h_t_state, .ref h_t_images, .ref h_t_isKept, .ref h_t_pad, .int t_said, .int t_leastSize, .int t_leastSet, .int t_found, .ref h_t_row, .ref h_t_isUsed, .ref h_t_table, .int t_rank, .long t_determinant])), (h_t_state, .inl (cI, 4, .inl t_state))]) (wr := [(h_t_row, .inl (cI, 7, .inl t_row)), (h_t_isUsed, .inl (cZ, 7, .inl t_isUsed))]) (wc' := [(h_t, .inr (6, [.ref h_t_state, .ref h_t_images, .ref h_t_isKept, .ref h_t_pad, .int t_said, .int t_leastSize, .int t_leastSet, .int t_found, .ref h_t_row, .ref h_t_isUsed, .ref h_t_table, .int t_rank, .long t_determinant])), (h_t_state, .inl (cI, 4, .inl t_state))]) (wf := [(h_t, .inr (6, [.ref h_t_state, .ref h_t_images, .ref h_t_isKept, .ref h_t_pad, .int t_said, .int t_leastSize, .int t_leastSet, .int t_found, .ref h_t_row, .ref h_t_isUsed, .ref h_t_table, .int t_rank, .long t_determinant])), (h_t_state, .inl (cI, 4, .inl t_state)), (h_t_row, .inl (cI, 7, .inl t_row)), (h_t_isUsed, .inl (cZ, 7, .inl t_isUsed))]) (rt := (some (.int q_13))) ⟨hx, hb, hml, hown, hts⟩ (k_X6_many h_t h_t_state h_t_images h_t_isKept h_t_pad h_t_row h_t_isUsed h_t_table t_said t_leastSize t_leastSet t_found t_rank t_determinant t_state q_13 hq_13) (cwV 0 hts gX6_compare_X6_many rfl rfl rfl ⟨rfl, hdX6_many⟩ ⟨(Nat.le_of_ble_eq_true rfl), (Nat.le_of_ble_eq_true rfl)⟩) hK hN hP hD hS hA [0, 1] [2, 3] [2, 3, 0, 1] rfl rfl rfl rfl (by decide) rfl rfl rfl rfl rfl rfl hl.1 rfl (Nat.le_of_ble_eq_true rfl) rfl dX6_compare_110 ⟨Nat.zero_le _, Nat.zero_le _⟩ (fun H locs hP hD hS => ?_)
              refine lv_iload hx hb dX6_compare_113 (lv_at hl 1 rfl) ?_
              refine lv_iload hx hb dX6_compare_115 (lv_at hl 0 rfl) ?_
              refine lv_iconst (v := 1) hx hb dX6_compare_117 (by decide) ?_
              obtain ⟨q_14, hq_14, hM⟩ := on_bind hM
              refine on_callV (rest := []) (As := [.int q_13, .int q_5, .int q_6, .int (1 : Int32)]) (st1 := [.int q_14.1]) (C := RX6) (ci := 6) (q0 := 0) (wc := [(h_t, .inr (6, [.ref h_t_state, .ref h_t_images, .ref h_t_isKept, .ref h_t_pad, .int t_said, .int t_leastSize, .int t_leastSet, .int t_found, .ref h_t_row, .ref h_t_isUsed, .ref h_t_table, .int t_rank, .long t_determinant])), (h_t_row, .inl (cI, 7, .inl t_row)), (h_t_isUsed, .inl (cZ, 7, .inl t_isUsed))]) (wr := [(h_t_state, .inl (cI, 4, .inl t_state))]) (wc' := [(h_t, .inr (6, [.ref h_t_state, .ref h_t_images, .ref h_t_isKept, .ref h_t_pad, .int t_said, .int t_leastSize, .int t_leastSet, .int t_found, .ref h_t_row, .ref h_t_isUsed, .ref h_t_table, .int t_rank, .long t_determinant])), (h_t_row, .inl (cI, 7, .inl q_14.2.1)), (h_t_isUsed, .inl (cZ, 7, .inl q_14.2.2))]) (wf := [(h_t, .inr (6, [.ref h_t_state, .ref h_t_images, .ref h_t_isKept, .ref h_t_pad, .int t_said, .int t_leastSize, .int t_leastSet, .int t_found, .ref h_t_row, .ref h_t_isUsed, .ref h_t_table, .int t_rank, .long t_determinant])), (h_t_state, .inl (cI, 4, .inl t_state)), (h_t_row, .inl (cI, 7, .inl q_14.2.1)), (h_t_isUsed, .inl (cZ, 7, .inl q_14.2.2))]) (rt := (some (.int q_14.1))) ⟨hx, hb, hml, hown, hts⟩ (k_X6_comesTo h_t h_t_state h_t_images h_t_isKept h_t_pad h_t_row h_t_isUsed h_t_table t_said t_leastSize t_leastSet t_found t_rank t_determinant t_row t_isUsed q_13 q_5 q_6 (1 : Int32) q_14 hq_14) (cwV 4 hts gX6_compare_X6_comesTo rfl rfl rfl ⟨rfl, hdX6_comesTo⟩ ⟨(Nat.le_of_ble_eq_true rfl), (Nat.le_of_ble_eq_true rfl)⟩) hK hN hP hD hS hA [0, 2, 3] [1] [1, 0, 2, 3] rfl rfl rfl rfl (by decide) rfl rfl rfl rfl rfl rfl hl.1 rfl (Nat.le_of_ble_eq_true rfl) rfl dX6_compare_118 ⟨Nat.zero_le _, Nat.zero_le _⟩ (fun H locs hP hD hS => ?_)
              refine lv_if_le (tgt := 128) hx hb dX6_compare_121 (by decide) (fun c_15 => ?_) (fun c_15 => ?_)
              · have hM := on_pos c_15 hM
                refine lv_iconst (v := 0) hx hb dX6_compare_128 (by decide) ?_
                have hM := Option.some.inj hM
                subst hM
                rw [← hQ]
                exact on_iret hx hb hr hlk hP hD hS dX6_compare_129
              · have hM := on_neg c_15 hM
                refine lv_iconst (v := 1) hx hb dX6_compare_124 (by decide) ?_
                refine lv_goto (tgt := 129) hx hb dX6_compare_125 (by decide) ?_
                have hM := Option.some.inj hM
                subst hM
                rw [← hQ]
                exact on_iret hx hb hr hlk hP hD hS dX6_compare_129
            · have hM := on_neg c_19 hM
              refine lv_tableOut (tgt := 130) hx hb dX6_compare_31 (on_swOut (n := 4) (fun k hk => by rcases (show k = 0 ∨ k = 1 ∨ k = 2 ∨ k = 3 by omega) with rfl | rfl | rfl | rfl <;> first | exact c_16 | exact c_17 | exact c_18 | exact c_19) (by decide)) (by decide) ?_
              refine lv_bipush (v := -2) hx hb dX6_compare_130 (by decide) ?_
              have hM := Option.some.inj hM
              subst hM
              rw [← hQ]
              exact on_iret hx hb hr hlk hP hD hS dX6_compare_132
    · have hM := on_pos c_4 hM
      refine lv_iconst (v := -1) hx hb dX6_compare_14 (by decide) ?_
      have hM := Option.some.inj hM
      subst hM
      rw [← hQ]
      exact on_iret hx hb hr hlk hP hD hS dX6_compare_15
abbrev rm_X6_kind : Room := { frames := 6, cells := 0, slots := 0, locals := 142 }
set_option maxHeartbeats 4000000 in
set_option maxRecDepth 100000 in
theorem k_X6_kind {l : Launch} {D : va_G} {cI cJ cZ cS cA : ClassId} (h_t : Nat) (h_t_state : Nat) (h_t_images : Nat) (h_t_isKept : Nat) (h_t_pad : Nat) (h_t_row : Nat) (h_t_isUsed : Nat) (h_t_table : Nat) (t_said : Int32) (t_leastSize : Int32) (t_leastSet : Int32) (t_found : Int32) (t_rank : Int32) (t_determinant : Int64) (t_state : Nat → Int32) (t_row : Nat → Int32) (t_isUsed : Nat → Int32) (v1 : Int32) (v2 : Int32) (out : Int32 × (Nat → Int32) × (Nat → Int32)) (hM : M_X6_kind v1 v2 t_state t_row t_isUsed = some out) : on_Con l yX6_kind wsX6_kind rm_X6_kind [.ref h_t, .int v1, .int v2] D (on_T cI cJ cZ cS cA) [(h_t, .inr (6, [.ref h_t_state, .ref h_t_images, .ref h_t_isKept, .ref h_t_pad, .int t_said, .int t_leastSize, .int t_leastSet, .int t_found, .ref h_t_row, .ref h_t_isUsed, .ref h_t_table, .int t_rank, .long t_determinant])), (h_t_state, .inl (cI, 4, .inl t_state)), (h_t_row, .inl (cI, 7, .inl t_row)), (h_t_isUsed, .inl (cZ, 7, .inl t_isUsed))] (some (.int out.1)) [(h_t, .inr (6, [.ref h_t_state, .ref h_t_images, .ref h_t_isKept, .ref h_t_pad, .int t_said, .int t_leastSize, .int t_leastSet, .int t_found, .ref h_t_row, .ref h_t_isUsed, .ref h_t_table, .int t_rank, .long t_determinant])), (h_t_state, .inl (cI, 4, .inl t_state)), (h_t_row, .inl (cI, 7, .inl out.2.1)), (h_t_isUsed, .inl (cZ, 7, .inl out.2.2))] := by
  unfold M_X6_kind at hM
  refine on_enter (cc := cX6_kind) (nL := 4) (rt := (some .int)) (own := RX6) (by decide +kernel) rfl rfl (Nat.le_of_ble_eq_true rfl) ?_
  intro p e s m below meth c A ls hx hb hml hr hlk hts hown hA hK hN H locs hP hD hS hl
  have hl : lv_has ls 4 [(0, .ref h_t), (1, .int v1), (2, .int v2)] := hl
  generalize hQ : MQ below (on_Q D (some (.int out.1)) [(h_t, .inr (6, [.ref h_t_state, .ref h_t_images, .ref h_t_isKept, .ref h_t_pad, .int t_said, .int t_leastSize, .int t_leastSet, .int t_found, .ref h_t_row, .ref h_t_isUsed, .ref h_t_table, .int t_rank, .long t_determinant])), (h_t_state, .inl (cI, 4, .inl t_state)), (h_t_row, .inl (cI, 7, .inl out.2.1)), (h_t_isUsed, .inl (cZ, 7, .inl out.2.2))] A) _ s 0 0 A = Q
  generalize hAr : List.toArray ([.ref h_t, .int v1, .int v2] : List Value) = args at hts hQ ⊢
  refine lv_iload_n hx hb dX6_kind_0 rfl (lv_at hl 1 rfl) ?_
  obtain ⟨q_1, hq_1, hM⟩ := on_bind hM
  refine on_callS0 (rest := []) (As := [.int v1]) (st1 := [.int q_1]) ⟨hx, hb, hml, hown, hts⟩ (k_X6_isSlot v1 q_1 hq_1) (va_cwS 1 hts gX6_kind_X6_isSlot rfl rfl rfl hdX6_isSlot ⟨(Nat.le_of_ble_eq_true rfl), (Nat.le_of_ble_eq_true rfl)⟩) hK hN hP hD hS hA rfl hl.1 rfl (Nat.le_of_ble_eq_true rfl) rfl dX6_kind_1 ⟨Nat.zero_le _, Nat.zero_le _⟩ (fun H locs hP hS => ?_)
  refine lv_if_ne (tgt := 9) hx hb dX6_kind_4 (by decide) (fun c_2 => ?_) (fun c_2 => ?_)
  · have hM := on_neg c_2 hM
    refine lv_aload_n hx hb dX6_kind_9 rfl (lv_at hl 0 rfl) ?_
    refine lv_iload_n hx hb dX6_kind_10 rfl (lv_at hl 1 rfl) ?_
    obtain ⟨q_3, hq_3, hM⟩ := on_bind hM
    refine on_callV (rest := []) (As := [.int v1]) (st1 := [.int q_3]) (C := RX6) (ci := 6) (q0 := 0) (wc := [(h_t, .inr (6, [.ref h_t_state, .ref h_t_images, .ref h_t_isKept, .ref h_t_pad, .int t_said, .int t_leastSize, .int t_leastSet, .int t_found, .ref h_t_row, .ref h_t_isUsed, .ref h_t_table, .int t_rank, .long t_determinant])), (h_t_state, .inl (cI, 4, .inl t_state))]) (wr := [(h_t_row, .inl (cI, 7, .inl t_row)), (h_t_isUsed, .inl (cZ, 7, .inl t_isUsed))]) (wc' := [(h_t, .inr (6, [.ref h_t_state, .ref h_t_images, .ref h_t_isKept, .ref h_t_pad, .int t_said, .int t_leastSize, .int t_leastSet, .int t_found, .ref h_t_row, .ref h_t_isUsed, .ref h_t_table, .int t_rank, .long t_determinant])), (h_t_state, .inl (cI, 4, .inl t_state))]) (wf := [(h_t, .inr (6, [.ref h_t_state, .ref h_t_images, .ref h_t_isKept, .ref h_t_pad, .int t_said, .int t_leastSize, .int t_leastSet, .int t_found, .ref h_t_row, .ref h_t_isUsed, .ref h_t_table, .int t_rank, .long t_determinant])), (h_t_state, .inl (cI, 4, .inl t_state)), (h_t_row, .inl (cI, 7, .inl t_row)), (h_t_isUsed, .inl (cZ, 7, .inl t_isUsed))]) (rt := (some (.int q_3))) ⟨hx, hb, hml, hown, hts⟩ (k_X6_netOf h_t h_t_state h_t_images h_t_isKept h_t_pad h_t_row h_t_isUsed h_t_table t_said t_leastSize t_leastSet t_found t_rank t_determinant t_state v1 q_3 hq_3) (cwV 1 hts gX6_kind_X6_netOf rfl rfl rfl ⟨rfl, hdX6_netOf⟩ ⟨(Nat.le_of_ble_eq_true rfl), (Nat.le_of_ble_eq_true rfl)⟩) hK hN hP hD hS hA [0, 1] [2, 3] [2, 3, 0, 1] rfl rfl rfl rfl (by decide) rfl rfl rfl rfl rfl rfl hl.1 rfl (Nat.le_of_ble_eq_true rfl) rfl dX6_kind_11 ⟨Nat.zero_le _, Nat.zero_le _⟩ (fun H locs hP hD hS => ?_)
    refine lv_istore_n (lv' := [(3, .int q_3), (0, .ref h_t), (1, .int v1), (2, .int v2)]) hx hb dX6_kind_14 rfl hl (by decide) rfl (fun ls hl => ?_)
    refine lv_iload_n hx hb dX6_kind_15 rfl (lv_at hl 3 rfl) ?_
    by_cases c_10 : v2 = 0
    · have hM := on_pos c_10 hM
      refine lv_tableIn (tgt := 44) hx hb dX6_kind_16 (by rw [c_10]; decide) (by rw [c_10]; decide) (by rw [c_10]; rfl) (by decide) ?_
      refine lv_aload_n hx hb dX6_kind_44 rfl (lv_at hl 1 rfl) ?_
      refine lv_aload_n hx hb dX6_kind_45 rfl (lv_at hl 1 rfl) ?_
      obtain ⟨q_4, hq_4, hM⟩ := on_bind hM
      refine on_callV (rest := [.ref h_t]) (As := []) (st1 := [.int q_4, .ref h_t]) (C := RX6) (ci := 6) (q0 := 0) (wc := [(h_t, .inr (6, [.ref h_t_state, .ref h_t_images, .ref h_t_isKept, .ref h_t_pad, .int t_said, .int t_leastSize, .int t_leastSet, .int t_found, .ref h_t_row, .ref h_t_isUsed, .ref h_t_table, .int t_rank, .long t_determinant])), (h_t_state, .inl (cI, 4, .inl t_state))]) (wr := [(h_t_row, .inl (cI, 7, .inl t_row)), (h_t_isUsed, .inl (cZ, 7, .inl t_isUsed))]) (wc' := [(h_t, .inr (6, [.ref h_t_state, .ref h_t_images, .ref h_t_isKept, .ref h_t_pad, .int t_said, .int t_leastSize, .int t_leastSet, .int t_found, .ref h_t_row, .ref h_t_isUsed, .ref h_t_table, .int t_rank, .long t_determinant])), (h_t_state, .inl (cI, 4, .inl t_state))]) (wf := [(h_t, .inr (6, [.ref h_t_state, .ref h_t_images, .ref h_t_isKept, .ref h_t_pad, .int t_said, .int t_leastSize, .int t_leastSet, .int t_found, .ref h_t_row, .ref h_t_isUsed, .ref h_t_table, .int t_rank, .long t_determinant])), (h_t_state, .inl (cI, 4, .inl t_state)), (h_t_row, .inl (cI, 7, .inl t_row)), (h_t_isUsed, .inl (cZ, 7, .inl t_isUsed))]) (rt := (some (.int q_4))) ⟨hx, hb, hml, hown, hts⟩ (k_X6_many h_t h_t_state h_t_images h_t_isKept h_t_pad h_t_row h_t_isUsed h_t_table t_said t_leastSize t_leastSet t_found t_rank t_determinant t_state q_4 hq_4) (cwV 0 hts gX6_kind_X6_many rfl rfl rfl ⟨rfl, hdX6_many⟩ ⟨(Nat.le_of_ble_eq_true rfl), (Nat.le_of_ble_eq_true rfl)⟩) hK hN hP hD hS hA [0, 1] [2, 3] [2, 3, 0, 1] rfl rfl rfl rfl (by decide) rfl rfl rfl rfl rfl rfl hl.1 rfl (Nat.le_of_ble_eq_true rfl) rfl dX6_kind_46 ⟨Nat.zero_le _, Nat.zero_le _⟩ (fun H locs hP hD hS => ?_)
      refine lv_iload_n hx hb dX6_kind_49 rfl (lv_at hl 0 rfl) ?_
      obtain ⟨q_5, hq_5, hM⟩ := on_bind hM
      refine on_callV (rest := []) (As := [.int q_4, .int q_3]) (st1 := [.int q_5.1]) (C := RX6) (ci := 6) (q0 := 0) (wc := [(h_t, .inr (6, [.ref h_t_state, .ref h_t_images, .ref h_t_isKept, .ref h_t_pad, .int t_said, .int t_leastSize, .int t_leastSet, .int t_found, .ref h_t_row, .ref h_t_isUsed, .ref h_t_table, .int t_rank, .long t_determinant])), (h_t_row, .inl (cI, 7, .inl t_row)), (h_t_isUsed, .inl (cZ, 7, .inl t_isUsed))]) (wr := [(h_t_state, .inl (cI, 4, .inl t_state))]) (wc' := [(h_t, .inr (6, [.ref h_t_state, .ref h_t_images, .ref h_t_isKept, .ref h_t_pad, .int t_said, .int t_leastSize, .int t_leastSet, .int t_found, .ref h_t_row, .ref h_t_isUsed, .ref h_t_table, .int t_rank, .long t_determinant])), (h_t_row, .inl (cI, 7, .inl q_5.2.1)), (h_t_isUsed, .inl (cZ, 7, .inl q_5.2.2))]) (wf := [(h_t, .inr (6, [.ref h_t_state, .ref h_t_images, .ref h_t_isKept, .ref h_t_pad, .int t_said, .int t_leastSize, .int t_leastSet, .int t_found, .ref h_t_row, .ref h_t_isUsed, .ref h_t_table, .int t_rank, .long t_determinant])), (h_t_state, .inl (cI, 4, .inl t_state)), (h_t_row, .inl (cI, 7, .inl q_5.2.1)), (h_t_isUsed, .inl (cZ, 7, .inl q_5.2.2))]) (rt := (some (.int q_5.1))) ⟨hx, hb, hml, hown, hts⟩ (k_X6_kindOf h_t h_t_state h_t_images h_t_isKept h_t_pad h_t_row h_t_isUsed h_t_table t_said t_leastSize t_leastSet t_found t_rank t_determinant t_row t_isUsed q_4 q_3 q_5 hq_5) (cwV 2 hts gX6_kind_X6_kindOf rfl rfl rfl ⟨rfl, hdX6_kindOf⟩ ⟨(Nat.le_of_ble_eq_true rfl), (Nat.le_of_ble_eq_true rfl)⟩) hK hN hP hD hS hA [0, 2, 3] [1] [1, 0, 2, 3] rfl rfl rfl rfl (by decide) rfl rfl rfl rfl rfl rfl hl.1 rfl (Nat.le_of_ble_eq_true rfl) rfl dX6_kind_50 ⟨Nat.zero_le _, Nat.zero_le _⟩ (fun H locs hP hD hS => ?_)
      have hM := Option.some.inj hM
      subst hM
      rw [← hQ]
      exact on_iret hx hb hr hlk hP hD hS dX6_kind_53
    · have hM := on_neg c_10 hM
      by_cases c_11 : v2 = 1
      · have hM := on_pos c_11 hM
        refine lv_tableIn (tgt := 54) hx hb dX6_kind_16 (by rw [c_11]; decide) (by rw [c_11]; decide) (by rw [c_11]; rfl) (by decide) ?_
        refine lv_aload_n hx hb dX6_kind_54 rfl (lv_at hl 1 rfl) ?_
        refine lv_aload_n hx hb dX6_kind_55 rfl (lv_at hl 1 rfl) ?_
        obtain ⟨q_6, hq_6, hM⟩ := on_bind hM
        refine on_callV (rest := [.ref h_t]) (As := []) (st1 := [.int q_6, .ref h_t]) (C := RX6) (ci := 6) (q0 := 0) (wc := [(h_t, .inr (6, [.ref h_t_state, .ref h_t_images, .ref h_t_isKept, .ref h_t_pad, .int t_said, .int t_leastSize, .int t_leastSet, .int t_found, .ref h_t_row, .ref h_t_isUsed, .ref h_t_table, .int t_rank, .long t_determinant])), (h_t_state, .inl (cI, 4, .inl t_state))]) (wr := [(h_t_row, .inl (cI, 7, .inl t_row)), (h_t_isUsed, .inl (cZ, 7, .inl t_isUsed))]) (wc' := [(h_t, .inr (6, [.ref h_t_state, .ref h_t_images, .ref h_t_isKept, .ref h_t_pad, .int t_said, .int t_leastSize, .int t_leastSet, .int t_found, .ref h_t_row, .ref h_t_isUsed, .ref h_t_table, .int t_rank, .long t_determinant])), (h_t_state, .inl (cI, 4, .inl t_state))]) (wf := [(h_t, .inr (6, [.ref h_t_state, .ref h_t_images, .ref h_t_isKept, .ref h_t_pad, .int t_said, .int t_leastSize, .int t_leastSet, .int t_found, .ref h_t_row, .ref h_t_isUsed, .ref h_t_table, .int t_rank, .long t_determinant])), (h_t_state, .inl (cI, 4, .inl t_state)), (h_t_row, .inl (cI, 7, .inl t_row)), (h_t_isUsed, .inl (cZ, 7, .inl t_isUsed))]) (rt := (some (.int q_6))) ⟨hx, hb, hml, hown, hts⟩ (k_X6_many h_t h_t_state h_t_images h_t_isKept h_t_pad h_t_row h_t_isUsed h_t_table t_said t_leastSize t_leastSet t_found t_rank t_determinant t_state q_6 hq_6) (cwV 0 hts gX6_kind_X6_many rfl rfl rfl ⟨rfl, hdX6_many⟩ ⟨(Nat.le_of_ble_eq_true rfl), (Nat.le_of_ble_eq_true rfl)⟩) hK hN hP hD hS hA [0, 1] [2, 3] [2, 3, 0, 1] rfl rfl rfl rfl (by decide) rfl rfl rfl rfl rfl rfl hl.1 rfl (Nat.le_of_ble_eq_true rfl) rfl dX6_kind_56 ⟨Nat.zero_le _, Nat.zero_le _⟩ (fun H locs hP hD hS => ?_)
        refine lv_iload_n hx hb dX6_kind_59 rfl (lv_at hl 0 rfl) ?_
        refine lv_iload_n hx hb dX6_kind_60 rfl (lv_at hl 0 rfl) ?_
        refine lv_iconst (v := 1) hx hb dX6_kind_61 (by decide) ?_
        obtain ⟨q_7, hq_7, hM⟩ := on_bind hM
        refine on_callV (rest := []) (As := [.int q_6, .int q_3, .int q_3, .int (1 : Int32)]) (st1 := [.int q_7.1]) (C := RX6) (ci := 6) (q0 := 0) (wc := [(h_t, .inr (6, [.ref h_t_state, .ref h_t_images, .ref h_t_isKept, .ref h_t_pad, .int t_said, .int t_leastSize, .int t_leastSet, .int t_found, .ref h_t_row, .ref h_t_isUsed, .ref h_t_table, .int t_rank, .long t_determinant])), (h_t_row, .inl (cI, 7, .inl t_row)), (h_t_isUsed, .inl (cZ, 7, .inl t_isUsed))]) (wr := [(h_t_state, .inl (cI, 4, .inl t_state))]) (wc' := [(h_t, .inr (6, [.ref h_t_state, .ref h_t_images, .ref h_t_isKept, .ref h_t_pad, .int t_said, .int t_leastSize, .int t_leastSet, .int t_found, .ref h_t_row, .ref h_t_isUsed, .ref h_t_table, .int t_rank, .long t_determinant])), (h_t_row, .inl (cI, 7, .inl q_7.2.1)), (h_t_isUsed, .inl (cZ, 7, .inl q_7.2.2))]) (wf := [(h_t, .inr (6, [.ref h_t_state, .ref h_t_images, .ref h_t_isKept, .ref h_t_pad, .int t_said, .int t_leastSize, .int t_leastSet, .int t_found, .ref h_t_row, .ref h_t_isUsed, .ref h_t_table, .int t_rank, .long t_determinant])), (h_t_state, .inl (cI, 4, .inl t_state)), (h_t_row, .inl (cI, 7, .inl q_7.2.1)), (h_t_isUsed, .inl (cZ, 7, .inl q_7.2.2))]) (rt := (some (.int q_7.1))) ⟨hx, hb, hml, hown, hts⟩ (k_X6_comesTo h_t h_t_state h_t_images h_t_isKept h_t_pad h_t_row h_t_isUsed h_t_table t_said t_leastSize t_leastSet t_found t_rank t_determinant t_row t_isUsed q_6 q_3 q_3 (1 : Int32) q_7 hq_7) (cwV 4 hts gX6_kind_X6_comesTo rfl rfl rfl ⟨rfl, hdX6_comesTo⟩ ⟨(Nat.le_of_ble_eq_true rfl), (Nat.le_of_ble_eq_true rfl)⟩) hK hN hP hD hS hA [0, 2, 3] [1] [1, 0, 2, 3] rfl rfl rfl rfl (by decide) rfl rfl rfl rfl rfl rfl hl.1 rfl (Nat.le_of_ble_eq_true rfl) rfl dX6_kind_62 ⟨Nat.zero_le _, Nat.zero_le _⟩ (fun H locs hP hD hS => ?_)
        have hM := Option.some.inj hM
        subst hM
        rw [← hQ]
        exact on_iret hx hb hr hlk hP hD hS dX6_kind_65
      · have hM := on_neg c_11 hM
        by_cases c_12 : v2 = 2
        · have hM := on_pos c_12 hM
          refine lv_tableIn (tgt := 66) hx hb dX6_kind_16 (by rw [c_12]; decide) (by rw [c_12]; decide) (by rw [c_12]; rfl) (by decide) ?_
          refine lv_aload_n hx hb dX6_kind_66 rfl (lv_at hl 1 rfl) ?_
          refine lv_aload_n hx hb dX6_kind_67 rfl (lv_at hl 1 rfl) ?_
          obtain ⟨q_8, hq_8, hM⟩ := on_bind hM
          refine on_callV (rest := [.ref h_t]) (As := []) (st1 := [.int q_8, .ref h_t]) (C := RX6) (ci := 6) (q0 := 0) (wc := [(h_t, .inr (6, [.ref h_t_state, .ref h_t_images, .ref h_t_isKept, .ref h_t_pad, .int t_said, .int t_leastSize, .int t_leastSet, .int t_found, .ref h_t_row, .ref h_t_isUsed, .ref h_t_table, .int t_rank, .long t_determinant])), (h_t_state, .inl (cI, 4, .inl t_state))]) (wr := [(h_t_row, .inl (cI, 7, .inl t_row)), (h_t_isUsed, .inl (cZ, 7, .inl t_isUsed))]) (wc' := [(h_t, .inr (6, [.ref h_t_state, .ref h_t_images, .ref h_t_isKept, .ref h_t_pad, .int t_said, .int t_leastSize, .int t_leastSet, .int t_found, .ref h_t_row, .ref h_t_isUsed, .ref h_t_table, .int t_rank, .long t_determinant])), (h_t_state, .inl (cI, 4, .inl t_state))]) (wf := [(h_t, .inr (6, [.ref h_t_state, .ref h_t_images, .ref h_t_isKept, .ref h_t_pad, .int t_said, .int t_leastSize, .int t_leastSet, .int t_found, .ref h_t_row, .ref h_t_isUsed, .ref h_t_table, .int t_rank, .long t_determinant])), (h_t_state, .inl (cI, 4, .inl t_state)), (h_t_row, .inl (cI, 7, .inl t_row)), (h_t_isUsed, .inl (cZ, 7, .inl t_isUsed))]) (rt := (some (.int q_8))) ⟨hx, hb, hml, hown, hts⟩ (k_X6_many h_t h_t_state h_t_images h_t_isKept h_t_pad h_t_row h_t_isUsed h_t_table t_said t_leastSize t_leastSet t_found t_rank t_determinant t_state q_8 hq_8) (cwV 0 hts gX6_kind_X6_many rfl rfl rfl ⟨rfl, hdX6_many⟩ ⟨(Nat.le_of_ble_eq_true rfl), (Nat.le_of_ble_eq_true rfl)⟩) hK hN hP hD hS hA [0, 1] [2, 3] [2, 3, 0, 1] rfl rfl rfl rfl (by decide) rfl rfl rfl rfl rfl rfl hl.1 rfl (Nat.le_of_ble_eq_true rfl) rfl dX6_kind_68 ⟨Nat.zero_le _, Nat.zero_le _⟩ (fun H locs hP hD hS => ?_)
          refine lv_iload_n hx hb dX6_kind_71 rfl (lv_at hl 0 rfl) ?_
          refine lv_iload_n hx hb dX6_kind_72 rfl (lv_at hl 0 rfl) ?_
          refine lv_iconst (v := 0) hx hb dX6_kind_73 (by decide) ?_
          obtain ⟨q_9, hq_9, hM⟩ := on_bind hM
          refine on_callV (rest := []) (As := [.int q_8, .int q_3, .int q_3, .int (0 : Int32)]) (st1 := [.int q_9.1]) (C := RX6) (ci := 6) (q0 := 0) (wc := [(h_t, .inr (6, [.ref h_t_state, .ref h_t_images, .ref h_t_isKept, .ref h_t_pad, .int t_said, .int t_leastSize, .int t_leastSet, .int t_found, .ref h_t_row, .ref h_t_isUsed, .ref h_t_table, .int t_rank, .long t_determinant])), (h_t_row, .inl (cI, 7, .inl t_row)), (h_t_isUsed, .inl (cZ, 7, .inl t_isUsed))]) (wr := [(h_t_state, .inl (cI, 4, .inl t_state))]) (wc' := [(h_t, .inr (6, [.ref h_t_state, .ref h_t_images, .ref h_t_isKept, .ref h_t_pad, .int t_said, .int t_leastSize, .int t_leastSet, .int t_found, .ref h_t_row, .ref h_t_isUsed, .ref h_t_table, .int t_rank, .long t_determinant])), (h_t_row, .inl (cI, 7, .inl q_9.2.1)), (h_t_isUsed, .inl (cZ, 7, .inl q_9.2.2))]) (wf := [(h_t, .inr (6, [.ref h_t_state, .ref h_t_images, .ref h_t_isKept, .ref h_t_pad, .int t_said, .int t_leastSize, .int t_leastSet, .int t_found, .ref h_t_row, .ref h_t_isUsed, .ref h_t_table, .int t_rank, .long t_determinant])), (h_t_state, .inl (cI, 4, .inl t_state)), (h_t_row, .inl (cI, 7, .inl q_9.2.1)), (h_t_isUsed, .inl (cZ, 7, .inl q_9.2.2))]) (rt := (some (.int q_9.1))) ⟨hx, hb, hml, hown, hts⟩ (k_X6_comesTo h_t h_t_state h_t_images h_t_isKept h_t_pad h_t_row h_t_isUsed h_t_table t_said t_leastSize t_leastSet t_found t_rank t_determinant t_row t_isUsed q_8 q_3 q_3 (0 : Int32) q_9 hq_9) (cwV 4 hts gX6_kind_X6_comesTo rfl rfl rfl ⟨rfl, hdX6_comesTo⟩ ⟨(Nat.le_of_ble_eq_true rfl), (Nat.le_of_ble_eq_true rfl)⟩) hK hN hP hD hS hA [0, 2, 3] [1] [1, 0, 2, 3] rfl rfl rfl rfl (by decide) rfl rfl rfl rfl rfl rfl hl.1 rfl (Nat.le_of_ble_eq_true rfl) rfl dX6_kind_74 ⟨Nat.zero_le _, Nat.zero_le _⟩ (fun H locs hP hD hS => ?_)
          have hM := Option.some.inj hM
          subst hM
          rw [← hQ]
          exact on_iret hx hb hr hlk hP hD hS dX6_kind_77
        · have hM := on_neg c_12 hM
          refine lv_tableOut (tgt := 78) hx hb dX6_kind_16 (on_swOut (n := 3) (fun k hk => by rcases (show k = 0 ∨ k = 1 ∨ k = 2 by omega) with rfl | rfl | rfl <;> first | exact c_10 | exact c_11 | exact c_12) (by decide)) (by decide) ?_
          refine lv_bipush (v := -2) hx hb dX6_kind_78 (by decide) ?_
          have hM := Option.some.inj hM
          subst hM
          rw [← hQ]
          exact on_iret hx hb hr hlk hP hD hS dX6_kind_80
  · have hM := on_pos c_2 hM
    refine lv_iconst (v := -1) hx hb dX6_kind_7 (by decide) ?_
    have hM := Option.some.inj hM
    subst hM
    rw [← hQ]
    exact on_iret hx hb hr hlk hP hD hS dX6_kind_8
abbrev rm_X6_card : Room := { frames := 6, cells := 0, slots := 0, locals := 141 }
set_option maxHeartbeats 4000000 in
set_option maxRecDepth 100000 in
theorem k_X6_card {l : Launch} {D : va_G} {cI cJ cZ cS cA : ClassId} (h_t : Nat) (h_t_state : Nat) (h_t_images : Nat) (h_t_isKept : Nat) (h_t_pad : Nat) (h_t_row : Nat) (h_t_isUsed : Nat) (h_t_table : Nat) (t_said : Int32) (t_leastSize : Int32) (t_leastSet : Int32) (t_found : Int32) (t_rank : Int32) (t_determinant : Int64) (t_state : Nat → Int32) (t_row : Nat → Int32) (t_isUsed : Nat → Int32) (v1 : Int32) (v2 : Int32) (out : Int32 × (Nat → Int32) × (Nat → Int32)) (hM : M_X6_card v1 v2 t_state t_row t_isUsed = some out) : on_Con l yX6_card wsX6_card rm_X6_card [.ref h_t, .int v1, .int v2] D (on_T cI cJ cZ cS cA) [(h_t, .inr (6, [.ref h_t_state, .ref h_t_images, .ref h_t_isKept, .ref h_t_pad, .int t_said, .int t_leastSize, .int t_leastSet, .int t_found, .ref h_t_row, .ref h_t_isUsed, .ref h_t_table, .int t_rank, .long t_determinant])), (h_t_state, .inl (cI, 4, .inl t_state)), (h_t_row, .inl (cI, 7, .inl t_row)), (h_t_isUsed, .inl (cZ, 7, .inl t_isUsed))] (some (.int out.1)) [(h_t, .inr (6, [.ref h_t_state, .ref h_t_images, .ref h_t_isKept, .ref h_t_pad, .int t_said, .int t_leastSize, .int t_leastSet, .int t_found, .ref h_t_row, .ref h_t_isUsed, .ref h_t_table, .int t_rank, .long t_determinant])), (h_t_state, .inl (cI, 4, .inl t_state)), (h_t_row, .inl (cI, 7, .inl out.2.1)), (h_t_isUsed, .inl (cZ, 7, .inl out.2.2))] := by
  unfold M_X6_card at hM
  refine on_enter (cc := cX6_card) (nL := 3) (rt := (some .int)) (own := RX6) (by decide +kernel) rfl rfl (Nat.le_of_ble_eq_true rfl) ?_
  intro p e s m below meth c A ls hx hb hml hr hlk hts hown hA hK hN H locs hP hD hS hl
  have hl : lv_has ls 3 [(0, .ref h_t), (1, .int v1), (2, .int v2)] := hl
  generalize hQ : MQ below (on_Q D (some (.int out.1)) [(h_t, .inr (6, [.ref h_t_state, .ref h_t_images, .ref h_t_isKept, .ref h_t_pad, .int t_said, .int t_leastSize, .int t_leastSet, .int t_found, .ref h_t_row, .ref h_t_isUsed, .ref h_t_table, .int t_rank, .long t_determinant])), (h_t_state, .inl (cI, 4, .inl t_state)), (h_t_row, .inl (cI, 7, .inl out.2.1)), (h_t_isUsed, .inl (cZ, 7, .inl out.2.2))] A) _ s 0 0 A = Q
  generalize hAr : List.toArray ([.ref h_t, .int v1, .int v2] : List Value) = args at hts hQ ⊢
  refine lv_iload_n hx hb dX6_card_0 rfl (lv_at hl 1 rfl) ?_
  obtain ⟨q_1, hq_1, hM⟩ := on_bind hM
  refine on_callS0 (rest := []) (As := [.int v1]) (st1 := [.int q_1]) ⟨hx, hb, hml, hown, hts⟩ (k_X6_isSlot v1 q_1 hq_1) (va_cwS 1 hts gX6_card_X6_isSlot rfl rfl rfl hdX6_isSlot ⟨(Nat.le_of_ble_eq_true rfl), (Nat.le_of_ble_eq_true rfl)⟩) hK hN hP hD hS hA rfl hl.1 rfl (Nat.le_of_ble_eq_true rfl) rfl dX6_card_1 ⟨Nat.zero_le _, Nat.zero_le _⟩ (fun H locs hP hS => ?_)
  refine lv_if_eq (tgt := 15) hx hb dX6_card_4 (by decide) (fun c_2 => ?_) (fun c_2 => ?_)
  · have hM := on_pos c_2 hM
    refine lv_iconst (v := -1) hx hb dX6_card_15 (by decide) ?_
    have hM := Option.some.inj hM
    subst hM
    rw [← hQ]
    exact on_iret hx hb hr hlk hP hD hS dX6_card_16
  · have hM := on_neg c_2 hM
    refine lv_aload_n hx hb dX6_card_7 rfl (lv_at hl 0 rfl) ?_
    refine lv_iload_n hx hb dX6_card_8 rfl (lv_at hl 2 rfl) ?_
    obtain ⟨q_3, hq_3, hM⟩ := on_bind hM
    refine on_callV (rest := []) (As := [.int v2]) (st1 := [.int q_3]) (C := RX6) (ci := 6) (q0 := 0) (wc := [(h_t, .inr (6, [.ref h_t_state, .ref h_t_images, .ref h_t_isKept, .ref h_t_pad, .int t_said, .int t_leastSize, .int t_leastSet, .int t_found, .ref h_t_row, .ref h_t_isUsed, .ref h_t_table, .int t_rank, .long t_determinant])), (h_t_state, .inl (cI, 4, .inl t_state))]) (wr := [(h_t_row, .inl (cI, 7, .inl t_row)), (h_t_isUsed, .inl (cZ, 7, .inl t_isUsed))]) (wc' := [(h_t, .inr (6, [.ref h_t_state, .ref h_t_images, .ref h_t_isKept, .ref h_t_pad, .int t_said, .int t_leastSize, .int t_leastSet, .int t_found, .ref h_t_row, .ref h_t_isUsed, .ref h_t_table, .int t_rank, .long t_determinant])), (h_t_state, .inl (cI, 4, .inl t_state))]) (wf := [(h_t, .inr (6, [.ref h_t_state, .ref h_t_images, .ref h_t_isKept, .ref h_t_pad, .int t_said, .int t_leastSize, .int t_leastSet, .int t_found, .ref h_t_row, .ref h_t_isUsed, .ref h_t_table, .int t_rank, .long t_determinant])), (h_t_state, .inl (cI, 4, .inl t_state)), (h_t_row, .inl (cI, 7, .inl t_row)), (h_t_isUsed, .inl (cZ, 7, .inl t_isUsed))]) (rt := (some (.int q_3))) ⟨hx, hb, hml, hown, hts⟩ (k_X6_isNode h_t h_t_state h_t_images h_t_isKept h_t_pad h_t_row h_t_isUsed h_t_table t_said t_leastSize t_leastSet t_found t_rank t_determinant t_state v2 q_3 hq_3) (cwV 1 hts gX6_card_X6_isNode rfl rfl rfl ⟨rfl, hdX6_isNode⟩ ⟨(Nat.le_of_ble_eq_true rfl), (Nat.le_of_ble_eq_true rfl)⟩) hK hN hP hD hS hA [0, 1] [2, 3] [2, 3, 0, 1] rfl rfl rfl rfl (by decide) rfl rfl rfl rfl rfl rfl hl.1 rfl (Nat.le_of_ble_eq_true rfl) rfl dX6_card_9 ⟨Nat.zero_le _, Nat.zero_le _⟩ (fun H locs hP hD hS => ?_)
    refine lv_if_ne (tgt := 17) hx hb dX6_card_12 (by decide) (fun c_4 => ?_) (fun c_4 => ?_)
    · have hM := on_neg c_4 hM
      refine lv_aload_n hx hb dX6_card_17 rfl (lv_at hl 0 rfl) ?_
      obtain ⟨q_5, hq_5, hM⟩ := on_bind hM
      refine on_callV (rest := []) (As := []) (st1 := [.int q_5]) (C := RX6) (ci := 6) (q0 := 0) (wc := [(h_t, .inr (6, [.ref h_t_state, .ref h_t_images, .ref h_t_isKept, .ref h_t_pad, .int t_said, .int t_leastSize, .int t_leastSet, .int t_found, .ref h_t_row, .ref h_t_isUsed, .ref h_t_table, .int t_rank, .long t_determinant])), (h_t_state, .inl (cI, 4, .inl t_state))]) (wr := [(h_t_row, .inl (cI, 7, .inl t_row)), (h_t_isUsed, .inl (cZ, 7, .inl t_isUsed))]) (wc' := [(h_t, .inr (6, [.ref h_t_state, .ref h_t_images, .ref h_t_isKept, .ref h_t_pad, .int t_said, .int t_leastSize, .int t_leastSet, .int t_found, .ref h_t_row, .ref h_t_isUsed, .ref h_t_table, .int t_rank, .long t_determinant])), (h_t_state, .inl (cI, 4, .inl t_state))]) (wf := [(h_t, .inr (6, [.ref h_t_state, .ref h_t_images, .ref h_t_isKept, .ref h_t_pad, .int t_said, .int t_leastSize, .int t_leastSet, .int t_found, .ref h_t_row, .ref h_t_isUsed, .ref h_t_table, .int t_rank, .long t_determinant])), (h_t_state, .inl (cI, 4, .inl t_state)), (h_t_row, .inl (cI, 7, .inl t_row)), (h_t_isUsed, .inl (cZ, 7, .inl t_isUsed))]) (rt := (some (.int q_5))) ⟨hx, hb, hml, hown, hts⟩ (k_X6_many h_t h_t_state h_t_images h_t_isKept h_t_pad h_t_row h_t_isUsed h_t_table t_said t_leastSize t_leastSet t_found t_rank t_determinant t_state q_5 hq_5) (cwV 0 hts gX6_card_X6_many rfl rfl rfl ⟨rfl, hdX6_many⟩ ⟨(Nat.le_of_ble_eq_true rfl), (Nat.le_of_ble_eq_true rfl)⟩) hK hN hP hD hS hA [0, 1] [2, 3] [2, 3, 0, 1] rfl rfl rfl rfl (by decide) rfl rfl rfl rfl rfl rfl hl.1 rfl (Nat.le_of_ble_eq_true rfl) rfl dX6_card_18 ⟨Nat.zero_le _, Nat.zero_le _⟩ (fun H locs hP hD hS => ?_)
      refine lv_iconst (v := 3) hx hb dX6_card_21 (by decide) ?_
      refine lv_icmp_ne (tgt := 28) hx hb dX6_card_22 (by decide) (fun c_6 => ?_) (fun c_6 => ?_)
      · have hM := on_neg c_6 hM
        refine lv_aload_n hx hb dX6_card_28 rfl (lv_at hl 0 rfl) ?_
        refine lv_aload_n hx hb dX6_card_29 rfl (lv_at hl 0 rfl) ?_
        obtain ⟨q_7, hq_7, hM⟩ := on_bind hM
        refine on_callV (rest := [.ref h_t]) (As := []) (st1 := [.int q_7, .ref h_t]) (C := RX6) (ci := 6) (q0 := 0) (wc := [(h_t, .inr (6, [.ref h_t_state, .ref h_t_images, .ref h_t_isKept, .ref h_t_pad, .int t_said, .int t_leastSize, .int t_leastSet, .int t_found, .ref h_t_row, .ref h_t_isUsed, .ref h_t_table, .int t_rank, .long t_determinant])), (h_t_state, .inl (cI, 4, .inl t_state))]) (wr := [(h_t_row, .inl (cI, 7, .inl t_row)), (h_t_isUsed, .inl (cZ, 7, .inl t_isUsed))]) (wc' := [(h_t, .inr (6, [.ref h_t_state, .ref h_t_images, .ref h_t_isKept, .ref h_t_pad, .int t_said, .int t_leastSize, .int t_leastSet, .int t_found, .ref h_t_row, .ref h_t_isUsed, .ref h_t_table, .int t_rank, .long t_determinant])), (h_t_state, .inl (cI, 4, .inl t_state))]) (wf := [(h_t, .inr (6, [.ref h_t_state, .ref h_t_images, .ref h_t_isKept, .ref h_t_pad, .int t_said, .int t_leastSize, .int t_leastSet, .int t_found, .ref h_t_row, .ref h_t_isUsed, .ref h_t_table, .int t_rank, .long t_determinant])), (h_t_state, .inl (cI, 4, .inl t_state)), (h_t_row, .inl (cI, 7, .inl t_row)), (h_t_isUsed, .inl (cZ, 7, .inl t_isUsed))]) (rt := (some (.int q_7))) ⟨hx, hb, hml, hown, hts⟩ (k_X6_many h_t h_t_state h_t_images h_t_isKept h_t_pad h_t_row h_t_isUsed h_t_table t_said t_leastSize t_leastSet t_found t_rank t_determinant t_state q_7 hq_7) (cwV 0 hts gX6_card_X6_many rfl rfl rfl ⟨rfl, hdX6_many⟩ ⟨(Nat.le_of_ble_eq_true rfl), (Nat.le_of_ble_eq_true rfl)⟩) hK hN hP hD hS hA [0, 1] [2, 3] [2, 3, 0, 1] rfl rfl rfl rfl (by decide) rfl rfl rfl rfl rfl rfl hl.1 rfl (Nat.le_of_ble_eq_true rfl) rfl dX6_card_30 ⟨Nat.zero_le _, Nat.zero_le _⟩ (fun H locs hP hD hS => ?_)
        refine lv_iconst (v := 1) hx hb dX6_card_33 (by decide) ?_
        refine lv_isub hx hb dX6_card_34 ?_
        refine lv_aload_n hx hb dX6_card_35 rfl (lv_at hl 0 rfl) ?_
        obtain ⟨q_8, hq_8, hM⟩ := on_bind hM
        refine on_callV (rest := [.int (q_7 - (1 : Int32)), .ref h_t]) (As := []) (st1 := [.int q_8, .int (q_7 - (1 : Int32)), .ref h_t]) (C := RX6) (ci := 6) (q0 := 0) (wc := [(h_t, .inr (6, [.ref h_t_state, .ref h_t_images, .ref h_t_isKept, .ref h_t_pad, .int t_said, .int t_leastSize, .int t_leastSet, .int t_found, .ref h_t_row, .ref h_t_isUsed, .ref h_t_table, .int t_rank, .long t_determinant])), (h_t_state, .inl (cI, 4, .inl t_state))]) (wr := [(h_t_row, .inl (cI, 7, .inl t_row)), (h_t_isUsed, .inl (cZ, 7, .inl t_isUsed))]) (wc' := [(h_t, .inr (6, [.ref h_t_state, .ref h_t_images, .ref h_t_isKept, .ref h_t_pad, .int t_said, .int t_leastSize, .int t_leastSet, .int t_found, .ref h_t_row, .ref h_t_isUsed, .ref h_t_table, .int t_rank, .long t_determinant])), (h_t_state, .inl (cI, 4, .inl t_state))]) (wf := [(h_t, .inr (6, [.ref h_t_state, .ref h_t_images, .ref h_t_isKept, .ref h_t_pad, .int t_said, .int t_leastSize, .int t_leastSet, .int t_found, .ref h_t_row, .ref h_t_isUsed, .ref h_t_table, .int t_rank, .long t_determinant])), (h_t_state, .inl (cI, 4, .inl t_state)), (h_t_row, .inl (cI, 7, .inl t_row)), (h_t_isUsed, .inl (cZ, 7, .inl t_isUsed))]) (rt := (some (.int q_8))) ⟨hx, hb, hml, hown, hts⟩ (k_X6_many h_t h_t_state h_t_images h_t_isKept h_t_pad h_t_row h_t_isUsed h_t_table t_said t_leastSize t_leastSet t_found t_rank t_determinant t_state q_8 hq_8) (cwV 0 hts gX6_card_X6_many rfl rfl rfl ⟨rfl, hdX6_many⟩ ⟨(Nat.le_of_ble_eq_true rfl), (Nat.le_of_ble_eq_true rfl)⟩) hK hN hP hD hS hA [0, 1] [2, 3] [2, 3, 0, 1] rfl rfl rfl rfl (by decide) rfl rfl rfl rfl rfl rfl hl.1 rfl (Nat.le_of_ble_eq_true rfl) rfl dX6_card_36 ⟨Nat.zero_le _, Nat.zero_le _⟩ (fun H locs hP hD hS => ?_)
        refine lv_aload_n hx hb dX6_card_39 rfl (lv_at hl 0 rfl) ?_
        refine lv_iload_n hx hb dX6_card_40 rfl (lv_at hl 1 rfl) ?_
        obtain ⟨q_9, hq_9, hM⟩ := on_bind hM
        refine on_callV (rest := [.int q_8, .int (q_7 - (1 : Int32)), .ref h_t]) (As := [.int v1]) (st1 := [.int q_9, .int q_8, .int (q_7 - (1 : Int32)), .ref h_t]) (C := RX6) (ci := 6) (q0 := 0) (wc := [(h_t, .inr (6, [.ref h_t_state, .ref h_t_images, .ref h_t_isKept, .ref h_t_pad, .int t_said, .int t_leastSize, .int t_leastSet, .int t_found, .ref h_t_row, .ref h_t_isUsed, .ref h_t_table, .int t_rank, .long t_determinant])), (h_t_state, .inl (cI, 4, .inl t_state))]) (wr := [(h_t_row, .inl (cI, 7, .inl t_row)), (h_t_isUsed, .inl (cZ, 7, .inl t_isUsed))]) (wc' := [(h_t, .inr (6, [.ref h_t_state, .ref h_t_images, .ref h_t_isKept, .ref h_t_pad, .int t_said, .int t_leastSize, .int t_leastSet, .int t_found, .ref h_t_row, .ref h_t_isUsed, .ref h_t_table, .int t_rank, .long t_determinant])), (h_t_state, .inl (cI, 4, .inl t_state))]) (wf := [(h_t, .inr (6, [.ref h_t_state, .ref h_t_images, .ref h_t_isKept, .ref h_t_pad, .int t_said, .int t_leastSize, .int t_leastSet, .int t_found, .ref h_t_row, .ref h_t_isUsed, .ref h_t_table, .int t_rank, .long t_determinant])), (h_t_state, .inl (cI, 4, .inl t_state)), (h_t_row, .inl (cI, 7, .inl t_row)), (h_t_isUsed, .inl (cZ, 7, .inl t_isUsed))]) (rt := (some (.int q_9))) ⟨hx, hb, hml, hown, hts⟩ (k_X6_netOf h_t h_t_state h_t_images h_t_isKept h_t_pad h_t_row h_t_isUsed h_t_table t_said t_leastSize t_leastSet t_found t_rank t_determinant t_state v1 q_9 hq_9) (cwV 1 hts gX6_card_X6_netOf rfl rfl rfl ⟨rfl, hdX6_netOf⟩ ⟨(Nat.le_of_ble_eq_true rfl), (Nat.le_of_ble_eq_true rfl)⟩) hK hN hP hD hS hA [0, 1] [2, 3] [2, 3, 0, 1] rfl rfl rfl rfl (by decide) rfl rfl rfl rfl rfl rfl hl.1 rfl (Nat.le_of_ble_eq_true rfl) rfl dX6_card_41 ⟨Nat.zero_le _, Nat.zero_le _⟩ (fun H locs hP hD hS => ?_)
        refine lv_iload_n hx hb dX6_card_44 rfl (lv_at hl 2 rfl) ?_
        obtain ⟨q_10, hq_10, hM⟩ := on_bind hM
        refine on_callS0 (rest := [.int (q_7 - (1 : Int32)), .ref h_t]) (As := [.int q_8, .int q_9, .int v2]) (st1 := [.int q_10, .int (q_7 - (1 : Int32)), .ref h_t]) ⟨hx, hb, hml, hown, hts⟩ (k_X6_without q_8 q_9 v2 q_10 hq_10) (va_cwS 3 hts gX6_card_X6_without rfl rfl rfl hdX6_without ⟨(Nat.le_of_ble_eq_true rfl), (Nat.le_of_ble_eq_true rfl)⟩) hK hN hP hD hS hA rfl hl.1 rfl (Nat.le_of_ble_eq_true rfl) rfl dX6_card_45 ⟨Nat.zero_le _, Nat.zero_le _⟩ (fun H locs hP hS => ?_)
        obtain ⟨q_11, hq_11, hM⟩ := on_bind hM
        refine on_callV (rest := []) (As := [.int (q_7 - (1 : Int32)), .int q_10]) (st1 := [.int q_11.1]) (C := RX6) (ci := 6) (q0 := 0) (wc := [(h_t, .inr (6, [.ref h_t_state, .ref h_t_images, .ref h_t_isKept, .ref h_t_pad, .int t_said, .int t_leastSize, .int t_leastSet, .int t_found, .ref h_t_row, .ref h_t_isUsed, .ref h_t_table, .int t_rank, .long t_determinant])), (h_t_row, .inl (cI, 7, .inl t_row)), (h_t_isUsed, .inl (cZ, 7, .inl t_isUsed))]) (wr := [(h_t_state, .inl (cI, 4, .inl t_state))]) (wc' := [(h_t, .inr (6, [.ref h_t_state, .ref h_t_images, .ref h_t_isKept, .ref h_t_pad, .int t_said, .int t_leastSize, .int t_leastSet, .int t_found, .ref h_t_row, .ref h_t_isUsed, .ref h_t_table, .int t_rank, .long t_determinant])), (h_t_row, .inl (cI, 7, .inl q_11.2.1)), (h_t_isUsed, .inl (cZ, 7, .inl q_11.2.2))]) (wf := [(h_t, .inr (6, [.ref h_t_state, .ref h_t_images, .ref h_t_isKept, .ref h_t_pad, .int t_said, .int t_leastSize, .int t_leastSet, .int t_found, .ref h_t_row, .ref h_t_isUsed, .ref h_t_table, .int t_rank, .long t_determinant])), (h_t_state, .inl (cI, 4, .inl t_state)), (h_t_row, .inl (cI, 7, .inl q_11.2.1)), (h_t_isUsed, .inl (cZ, 7, .inl q_11.2.2))]) (rt := (some (.int q_11.1))) ⟨hx, hb, hml, hown, hts⟩ (k_X6_kindOf h_t h_t_state h_t_images h_t_isKept h_t_pad h_t_row h_t_isUsed h_t_table t_said t_leastSize t_leastSet t_found t_rank t_determinant t_row t_isUsed (q_7 - (1 : Int32)) q_10 q_11 hq_11) (cwV 2 hts gX6_card_X6_kindOf rfl rfl rfl ⟨rfl, hdX6_kindOf⟩ ⟨(Nat.le_of_ble_eq_true rfl), (Nat.le_of_ble_eq_true rfl)⟩) hK hN hP hD hS hA [0, 2, 3] [1] [1, 0, 2, 3] rfl rfl rfl rfl (by decide) rfl rfl rfl rfl rfl rfl hl.1 rfl (Nat.le_of_ble_eq_true rfl) rfl dX6_card_48 ⟨Nat.zero_le _, Nat.zero_le _⟩ (fun H locs hP hD hS => ?_)
        have hM := Option.some.inj hM
        subst hM
        rw [← hQ]
        exact on_iret hx hb hr hlk hP hD hS dX6_card_51
      · have hM := on_pos c_6 hM
        refine lv_bipush (v := -3) hx hb dX6_card_25 (by decide) ?_
        have hM := Option.some.inj hM
        subst hM
        rw [← hQ]
        exact on_iret hx hb hr hlk hP hD hS dX6_card_27
    · have hM := on_pos c_4 hM
      refine lv_iconst (v := -1) hx hb dX6_card_15 (by decide) ?_
      have hM := Option.some.inj hM
      subst hM
      rw [← hQ]
      exact on_iret hx hb hr hlk hP hD hS dX6_card_16
abbrev rm_X6_layTable : Room := { frames := 3, cells := 0, slots := 0, locals := 68 }
set_option maxHeartbeats 4000000 in
set_option maxRecDepth 100000 in
theorem k_X6_layTable {l : Launch} {D : va_G} {cI cJ cZ cS cA : ClassId} (h_t : Nat) (h_t_state : Nat) (h_t_images : Nat) (h_t_isKept : Nat) (h_t_pad : Nat) (h_t_row : Nat) (h_t_isUsed : Nat) (h_t_table : Nat) (t_said : Int32) (t_leastSize : Int32) (t_leastSet : Int32) (t_found : Int32) (t_rank : Int32) (t_determinant : Int64) (t_state : Nat → Int32) (t_table : Nat → Int64) (v1 : Int32) (v2 : Int32) (out : (Nat → Int64)) (hM : M_X6_layTable v1 v2 t_state t_table = some out) : on_Con l yX6_layTable wsX6_layTable rm_X6_layTable [.ref h_t, .int v1, .int v2] D (on_T cI cJ cZ cS cA) [(h_t, .inr (6, [.ref h_t_state, .ref h_t_images, .ref h_t_isKept, .ref h_t_pad, .int t_said, .int t_leastSize, .int t_leastSet, .int t_found, .ref h_t_row, .ref h_t_isUsed, .ref h_t_table, .int t_rank, .long t_determinant])), (h_t_state, .inl (cI, 4, .inl t_state)), (h_t_table, .inl (cJ, 49, .inr (.inl t_table)))] none [(h_t, .inr (6, [.ref h_t_state, .ref h_t_images, .ref h_t_isKept, .ref h_t_pad, .int t_said, .int t_leastSize, .int t_leastSet, .int t_found, .ref h_t_row, .ref h_t_isUsed, .ref h_t_table, .int t_rank, .long t_determinant])), (h_t_state, .inl (cI, 4, .inl t_state)), (h_t_table, .inl (cJ, 49, .inr (.inl out)))] := by
  unfold M_X6_layTable at hM
  refine on_enter (cc := cX6_layTable) (nL := 5) (rt := none) (own := RX6) (by decide +kernel) rfl rfl (Nat.le_of_ble_eq_true rfl) ?_
  intro p e s m below meth c A ls hx hb hml hr hlk hts hown hA hK hN H locs hP hD hS hl
  have hl : lv_has ls 5 [(0, .ref h_t), (1, .int v1), (2, .int v2)] := hl
  generalize hQ : MQ below (on_Q D none [(h_t, .inr (6, [.ref h_t_state, .ref h_t_images, .ref h_t_isKept, .ref h_t_pad, .int t_said, .int t_leastSize, .int t_leastSet, .int t_found, .ref h_t_row, .ref h_t_isUsed, .ref h_t_table, .int t_rank, .long t_determinant])), (h_t_state, .inl (cI, 4, .inl t_state)), (h_t_table, .inl (cJ, 49, .inr (.inl out)))] A) _ s 0 0 A = Q
  generalize hAr : List.toArray ([.ref h_t, .int v1, .int v2] : List Value) = args at hts hQ ⊢
  have w1 := hts (.fieldLink RX6 29 "OddNetsModel" "table" "[J") (by decide +kernel)
  have w2 : ∀ w ∈ wsX60, w ∈ wsX6_layTable := by decide +kernel
  have lp_13 : ∀ (v1 : Int32) (v2 : Int32) (v3 : Int32), ∀ (n : Nat) (v4 : Int32) (t_table : Nat → Int64) (x : (Nat → Int64)), on_loop (fun (s : Int32 × (Nat → Int64)) => B_X6_layTable_13 v1 v2 v3 t_state s.1 s.2) n (v4, t_table) = some x → (∀ (H : Heap) (locs : List Loc), va_P D vwCl [(h_t, .inr (6, [.ref h_t_state, .ref h_t_images, .ref h_t_isKept, .ref h_t_pad, .int t_said, .int t_leastSize, .int t_leastSet, .int t_found, .ref h_t_row, .ref h_t_isUsed, .ref h_t_table, .int t_rank, .long t_determinant])), (h_t_state, .inl (cI, 4, .inl t_state)), (h_t_table, .inl (cJ, 49, .inr (.inl x)))] H → va_D A [(h_t, .inr (6, [.ref h_t_state, .ref h_t_images, .ref h_t_isKept, .ref h_t_pad, .int t_said, .int t_leastSize, .int t_leastSet, .int t_found, .ref h_t_row, .ref h_t_isUsed, .ref h_t_table, .int t_rank, .long t_determinant])), (h_t_state, .inl (cI, 4, .inl t_state)), (h_t_table, .inl (cJ, 49, .inr (.inl x)))] → va_S A s.heap H locs → ∀ ls : Array Slot, lv_has ls 5 [(0, .ref h_t), (1, .int v1), (2, .int v2), (3, .int v3)] → W p l e rm_X6_layTable s m args below meth c H locs 0 0 Q (F0 m 68 ls [])) → ∀ (H : Heap) (locs : List Loc), va_P D vwCl [(h_t, .inr (6, [.ref h_t_state, .ref h_t_images, .ref h_t_isKept, .ref h_t_pad, .int t_said, .int t_leastSize, .int t_leastSet, .int t_found, .ref h_t_row, .ref h_t_isUsed, .ref h_t_table, .int t_rank, .long t_determinant])), (h_t_state, .inl (cI, 4, .inl t_state)), (h_t_table, .inl (cJ, 49, .inr (.inl t_table)))] H → va_D A [(h_t, .inr (6, [.ref h_t_state, .ref h_t_images, .ref h_t_isKept, .ref h_t_pad, .int t_said, .int t_leastSize, .int t_leastSet, .int t_found, .ref h_t_row, .ref h_t_isUsed, .ref h_t_table, .int t_rank, .long t_determinant])), (h_t_state, .inl (cI, 4, .inl t_state)), (h_t_table, .inl (cJ, 49, .inr (.inl t_table)))] → va_S A s.heap H locs → ∀ ls : Array Slot, lv_has ls 5 [(0, .ref h_t), (1, .int v1), (2, .int v2), (3, .int v3), (4, .int v4)] → W p l e rm_X6_layTable s m args below meth c H locs 0 0 Q (F0 m 13 ls []) := by
    intro v1 v2 v3
    intro n
    induction n with
    | zero =>
      intro v4 t_table x hL
      exact (on_loop0 hL).elim
    | succ n ih =>
      intro v4 t_table x hL K1 H locs hP hD hS ls hl
      obtain ⟨y, hM, hk⟩ := on_loopE hL
      have hM : B_X6_layTable_13 v1 v2 v3 t_state v4 t_table = some y := hM
      unfold B_X6_layTable_13 at hM
      refine lv_iload hx hb dX6_layTable_13 (lv_at hl 4 rfl) ?_
      refine lv_aload_n hx hb dX6_layTable_15 rfl (lv_at hl 0 rfl) ?_
      obtain ⟨q_3, hq_3, hM⟩ := on_bind hM
      refine on_callV (rest := [.int v4]) (As := []) (st1 := [.int q_3, .int v4]) (C := RX6) (ci := 6) (q0 := 0) (wc := [(h_t, .inr (6, [.ref h_t_state, .ref h_t_images, .ref h_t_isKept, .ref h_t_pad, .int t_said, .int t_leastSize, .int t_leastSet, .int t_found, .ref h_t_row, .ref h_t_isUsed, .ref h_t_table, .int t_rank, .long t_determinant])), (h_t_state, .inl (cI, 4, .inl t_state))]) (wr := [(h_t_table, .inl (cJ, 49, .inr (.inl t_table)))]) (wc' := [(h_t, .inr (6, [.ref h_t_state, .ref h_t_images, .ref h_t_isKept, .ref h_t_pad, .int t_said, .int t_leastSize, .int t_leastSet, .int t_found, .ref h_t_row, .ref h_t_isUsed, .ref h_t_table, .int t_rank, .long t_determinant])), (h_t_state, .inl (cI, 4, .inl t_state))]) (wf := [(h_t, .inr (6, [.ref h_t_state, .ref h_t_images, .ref h_t_isKept, .ref h_t_pad, .int t_said, .int t_leastSize, .int t_leastSet, .int t_found, .ref h_t_row, .ref h_t_isUsed, .ref h_t_table, .int t_rank, .long t_determinant])), (h_t_state, .inl (cI, 4, .inl t_state)), (h_t_table, .inl (cJ, 49, .inr (.inl t_table)))]) (rt := (some (.int q_3))) ⟨hx, hb, hml, hown, hts⟩ (k_X6_many h_t h_t_state h_t_images h_t_isKept h_t_pad h_t_row h_t_isUsed h_t_table t_said t_leastSize t_leastSet t_found t_rank t_determinant t_state q_3 hq_3) (cwV 0 hts gX6_layTable_X6_many rfl rfl rfl ⟨rfl, hdX6_many⟩ ⟨(Nat.le_of_ble_eq_true rfl), (Nat.le_of_ble_eq_true rfl)⟩) hK hN hP hD hS hA [0, 1] [2] [1, 2, 0] rfl rfl rfl rfl (by decide) rfl rfl rfl rfl rfl rfl hl.1 rfl (Nat.le_of_ble_eq_true rfl) rfl dX6_layTable_16 ⟨Nat.zero_le _, Nat.zero_le _⟩ (fun H locs hP hD hS => ?_)
      refine lv_icmp_ge (tgt := 68) hx hb dX6_layTable_19 (by decide) (fun c_4 => ?_) (fun c_4 => ?_)
      · have hM := on_pos c_4 hM
        have hk := on_nxR hM hk
        subst hk
        exact K1 _ _ hP hD hS ls (lv_sub hl [0, 1, 2, 3] rfl)
      · have hM := on_neg c_4 hM
        refine lv_aload_n hx hb dX6_layTable_22 rfl (lv_at hl 0 rfl) ?_
        refine va_get (D := D) (ci := 6) (v := .ref h_t_table) (C := RX6) (T := TX6) (N := 13) hx hb hts w2 hown hK hP 0 rfl rfl 10 (by decide) w1 (fun _ h9 => h9) rfl dX6_layTable_23 ?_
        refine lv_bipush (v := 7) hx hb dX6_layTable_26 (by decide) ?_
        refine lv_iload_n hx hb dX6_layTable_28 rfl (lv_at hl 3 rfl) ?_
        refine lv_imul hx hb dX6_layTable_29 ?_
        refine lv_iload hx hb dX6_layTable_30 (lv_at hl 4 rfl) ?_
        refine lv_iadd hx hb dX6_layTable_32 ?_
        refine lv_iload_n hx hb dX6_layTable_33 rfl (lv_at hl 3 rfl) ?_
        refine lv_iload hx hb dX6_layTable_34 (lv_at hl 4 rfl) ?_
        refine lv_icmp_ne (tgt := 45) hx hb dX6_layTable_36 (by decide) (fun c_5 => ?_) (fun c_5 => ?_)
        · have hM := on_neg c_5 hM
          refine lv_iconst (v := 1) hx hb dX6_layTable_45 (by decide) ?_
          refine lv_iconst (v := 2) hx hb dX6_layTable_46 (by decide) ?_
          refine lv_aload_n hx hb dX6_layTable_47 rfl (lv_at hl 0 rfl) ?_
          obtain ⟨q_6, hq_6, hM⟩ := on_bind hM
          refine on_callV (rest := [.int (2 : Int32), .int (1 : Int32), .int (((7 : Int32) * v3) + v4), .ref h_t_table]) (As := []) (st1 := [.int q_6, .int (2 : Int32), .int (1 : Int32), .int (((7 : Int32) * v3) + v4), .ref h_t_table]) (C := RX6) (ci := 6) (q0 := 0) (wc := [(h_t, .inr (6, [.ref h_t_state, .ref h_t_images, .ref h_t_isKept, .ref h_t_pad, .int t_said, .int t_leastSize, .int t_leastSet, .int t_found, .ref h_t_row, .ref h_t_isUsed, .ref h_t_table, .int t_rank, .long t_determinant])), (h_t_state, .inl (cI, 4, .inl t_state))]) (wr := [(h_t_table, .inl (cJ, 49, .inr (.inl t_table)))]) (wc' := [(h_t, .inr (6, [.ref h_t_state, .ref h_t_images, .ref h_t_isKept, .ref h_t_pad, .int t_said, .int t_leastSize, .int t_leastSet, .int t_found, .ref h_t_row, .ref h_t_isUsed, .ref h_t_table, .int t_rank, .long t_determinant])), (h_t_state, .inl (cI, 4, .inl t_state))]) (wf := [(h_t, .inr (6, [.ref h_t_state, .ref h_t_images, .ref h_t_isKept, .ref h_t_pad, .int t_said, .int t_leastSize, .int t_leastSet, .int t_found, .ref h_t_row, .ref h_t_isUsed, .ref h_t_table, .int t_rank, .long t_determinant])), (h_t_state, .inl (cI, 4, .inl t_state)), (h_t_table, .inl (cJ, 49, .inr (.inl t_table)))]) (rt := (some (.int q_6))) ⟨hx, hb, hml, hown, hts⟩ (k_X6_many h_t h_t_state h_t_images h_t_isKept h_t_pad h_t_row h_t_isUsed h_t_table t_said t_leastSize t_leastSet t_found t_rank t_determinant t_state q_6 hq_6) (cwV 0 hts gX6_layTable_X6_many rfl rfl rfl ⟨rfl, hdX6_many⟩ ⟨(Nat.le_of_ble_eq_true rfl), (Nat.le_of_ble_eq_true rfl)⟩) hK hN hP hD hS hA [0, 1] [2] [1, 2, 0] rfl rfl rfl rfl (by decide) rfl rfl rfl rfl rfl rfl hl.1 rfl (Nat.le_of_ble_eq_true rfl) rfl dX6_layTable_48 ⟨Nat.zero_le _, Nat.zero_le _⟩ (fun H locs hP hD hS => ?_)
          refine lv_iload_n hx hb dX6_layTable_51 rfl (lv_at hl 1 rfl) ?_
          refine lv_iload_n hx hb dX6_layTable_52 rfl (lv_at hl 3 rfl) ?_
          refine lv_iload hx hb dX6_layTable_53 (lv_at hl 4 rfl) ?_
          obtain ⟨q_7, hq_7, hM⟩ := on_bind hM
          refine on_callS0 (rest := [.int (2 : Int32), .int (1 : Int32), .int (((7 : Int32) * v3) + v4), .ref h_t_table]) (As := [.int q_6, .int v1, .int v3, .int v4]) (st1 := [.int q_7, .int (2 : Int32), .int (1 : Int32), .int (((7 : Int32) * v3) + v4), .ref h_t_table]) ⟨hx, hb, hml, hown, hts⟩ (k_X6_joined q_6 v1 v3 v4 q_7 hq_7) (va_cwS 4 hts gX6_layTable_X6_joined rfl rfl rfl hdX6_joined ⟨(Nat.le_of_ble_eq_true rfl), (Nat.le_of_ble_eq_true rfl)⟩) hK hN hP hD hS hA rfl hl.1 rfl (Nat.le_of_ble_eq_true rfl) rfl dX6_layTable_55 ⟨Nat.zero_le _, Nat.zero_le _⟩ (fun H locs hP hS => ?_)
          refine lv_imul hx hb dX6_layTable_58 ?_
          refine lv_isub hx hb dX6_layTable_59 ?_
          refine lv_i2l hx hb dX6_layTable_60 rfl ?_
          obtain ⟨g_8, hM⟩ := on_gdE hM
          refine va_last hx hb hK hP hD hS 2 1 rfl rfl (on_ixE g_8) dX6_layTable_61 (fun H locs hP hD hS => ?_)
          have hP : va_P D vwCl [(h_t, .inr (6, [.ref h_t_state, .ref h_t_images, .ref h_t_isKept, .ref h_t_pad, .int t_said, .int t_leastSize, .int t_leastSet, .int t_found, .ref h_t_row, .ref h_t_isUsed, .ref h_t_table, .int t_rank, .long t_determinant])), (h_t_state, .inl (cI, 4, .inl t_state)), (h_t_table, .inl (cJ, 49, .inr (.inl (vp_updL t_table (Int32.toNatClampNeg (((7 : Int32) * v3) + v4)) (Int32.toInt64 ((1 : Int32) - ((2 : Int32) * q_7)))))))] H := hP
          have hD : va_D A [(h_t, .inr (6, [.ref h_t_state, .ref h_t_images, .ref h_t_isKept, .ref h_t_pad, .int t_said, .int t_leastSize, .int t_leastSet, .int t_found, .ref h_t_row, .ref h_t_isUsed, .ref h_t_table, .int t_rank, .long t_determinant])), (h_t_state, .inl (cI, 4, .inl t_state)), (h_t_table, .inl (cJ, 49, .inr (.inl (vp_updL t_table (Int32.toNatClampNeg (((7 : Int32) * v3) + v4)) (Int32.toInt64 ((1 : Int32) - ((2 : Int32) * q_7)))))))] := hD
          obtain ⟨v4_9, ev4_9⟩ : ∃ z : Int32, z = v4 + 1 := ⟨_, rfl⟩
          have hM := on_letE ev4_9 hM
          refine lv_iinc (v := v4_9) (lv' := [(4, .int v4_9), (0, .ref h_t), (1, .int v1), (2, .int v2), (3, .int v3)]) hx hb dX6_layTable_62 hl (k := 4) rfl (by rw [ev4_9]; rfl) (by decide) rfl (fun ls hl => ?_)
          refine lv_goto (tgt := 13) hx hb dX6_layTable_65 (by decide) ?_
          have hk := on_nxL hM hk
          exact ih v4_9 (vp_updL t_table (Int32.toNatClampNeg (((7 : Int32) * v3) + v4)) (Int32.toInt64 ((1 : Int32) - ((2 : Int32) * q_7)))) _ hk K1 _ _ hP hD hS ls (lv_sub hl [1, 2, 3, 4, 0] rfl)
        · have hM := on_pos c_5 hM
          refine lv_iload_n hx hb dX6_layTable_39 rfl (lv_at hl 2 rfl) ?_
          refine lv_ineg hx hb dX6_layTable_40 ?_
          refine lv_i2l hx hb dX6_layTable_41 rfl ?_
          refine lv_goto (tgt := 61) hx hb dX6_layTable_42 (by decide) ?_
          obtain ⟨g_10, hM⟩ := on_gdE hM
          refine va_last hx hb hK hP hD hS 2 1 rfl rfl (on_ixE g_10) dX6_layTable_61 (fun H locs hP hD hS => ?_)
          have hP : va_P D vwCl [(h_t, .inr (6, [.ref h_t_state, .ref h_t_images, .ref h_t_isKept, .ref h_t_pad, .int t_said, .int t_leastSize, .int t_leastSet, .int t_found, .ref h_t_row, .ref h_t_isUsed, .ref h_t_table, .int t_rank, .long t_determinant])), (h_t_state, .inl (cI, 4, .inl t_state)), (h_t_table, .inl (cJ, 49, .inr (.inl (vp_updL t_table (Int32.toNatClampNeg (((7 : Int32) * v3) + v4)) (Int32.toInt64 (-v2))))))] H := hP
          have hD : va_D A [(h_t, .inr (6, [.ref h_t_state, .ref h_t_images, .ref h_t_isKept, .ref h_t_pad, .int t_said, .int t_leastSize, .int t_leastSet, .int t_found, .ref h_t_row, .ref h_t_isUsed, .ref h_t_table, .int t_rank, .long t_determinant])), (h_t_state, .inl (cI, 4, .inl t_state)), (h_t_table, .inl (cJ, 49, .inr (.inl (vp_updL t_table (Int32.toNatClampNeg (((7 : Int32) * v3) + v4)) (Int32.toInt64 (-v2))))))] := hD
          obtain ⟨v4_11, ev4_11⟩ : ∃ z : Int32, z = v4 + 1 := ⟨_, rfl⟩
          have hM := on_letE ev4_11 hM
          refine lv_iinc (v := v4_11) (lv' := [(4, .int v4_11), (0, .ref h_t), (1, .int v1), (2, .int v2), (3, .int v3)]) hx hb dX6_layTable_62 hl (k := 4) rfl (by rw [ev4_11]; rfl) (by decide) rfl (fun ls hl => ?_)
          refine lv_goto (tgt := 13) hx hb dX6_layTable_65 (by decide) ?_
          have hk := on_nxL hM hk
          exact ih v4_11 (vp_updL t_table (Int32.toNatClampNeg (((7 : Int32) * v3) + v4)) (Int32.toInt64 (-v2))) _ hk K1 _ _ hP hD hS ls (lv_sub hl [1, 2, 3, 4, 0] rfl)
  have lp_2 : ∀ (v1 : Int32) (v2 : Int32), ∀ (n : Nat) (v3 : Int32) (t_table : Nat → Int64) (x : (Nat → Int64)), on_loop (fun (s : Int32 × (Nat → Int64)) => B_X6_layTable_2 v1 v2 t_state s.1 s.2) n (v3, t_table) = some x → (∀ (H : Heap) (locs : List Loc), va_P D vwCl [(h_t, .inr (6, [.ref h_t_state, .ref h_t_images, .ref h_t_isKept, .ref h_t_pad, .int t_said, .int t_leastSize, .int t_leastSet, .int t_found, .ref h_t_row, .ref h_t_isUsed, .ref h_t_table, .int t_rank, .long t_determinant])), (h_t_state, .inl (cI, 4, .inl t_state)), (h_t_table, .inl (cJ, 49, .inr (.inl x)))] H → va_D A [(h_t, .inr (6, [.ref h_t_state, .ref h_t_images, .ref h_t_isKept, .ref h_t_pad, .int t_said, .int t_leastSize, .int t_leastSet, .int t_found, .ref h_t_row, .ref h_t_isUsed, .ref h_t_table, .int t_rank, .long t_determinant])), (h_t_state, .inl (cI, 4, .inl t_state)), (h_t_table, .inl (cJ, 49, .inr (.inl x)))] → va_S A s.heap H locs → ∀ ls : Array Slot, lv_has ls 5 [] → W p l e rm_X6_layTable s m args below meth c H locs 0 0 Q (F0 m 74 ls [])) → ∀ (H : Heap) (locs : List Loc), va_P D vwCl [(h_t, .inr (6, [.ref h_t_state, .ref h_t_images, .ref h_t_isKept, .ref h_t_pad, .int t_said, .int t_leastSize, .int t_leastSet, .int t_found, .ref h_t_row, .ref h_t_isUsed, .ref h_t_table, .int t_rank, .long t_determinant])), (h_t_state, .inl (cI, 4, .inl t_state)), (h_t_table, .inl (cJ, 49, .inr (.inl t_table)))] H → va_D A [(h_t, .inr (6, [.ref h_t_state, .ref h_t_images, .ref h_t_isKept, .ref h_t_pad, .int t_said, .int t_leastSize, .int t_leastSet, .int t_found, .ref h_t_row, .ref h_t_isUsed, .ref h_t_table, .int t_rank, .long t_determinant])), (h_t_state, .inl (cI, 4, .inl t_state)), (h_t_table, .inl (cJ, 49, .inr (.inl t_table)))] → va_S A s.heap H locs → ∀ ls : Array Slot, lv_has ls 5 [(0, .ref h_t), (1, .int v1), (2, .int v2), (3, .int v3)] → W p l e rm_X6_layTable s m args below meth c H locs 0 0 Q (F0 m 2 ls []) := by
    intro v1 v2
    intro n
    induction n with
    | zero =>
      intro v3 t_table x hL
      exact (on_loop0 hL).elim
    | succ n ih =>
      intro v3 t_table x hL K1 H locs hP hD hS ls hl
      obtain ⟨y, hM, hk⟩ := on_loopE hL
      have hM : B_X6_layTable_2 v1 v2 t_state v3 t_table = some y := hM
      unfold B_X6_layTable_2 at hM
      refine lv_iload_n hx hb dX6_layTable_2 rfl (lv_at hl 3 rfl) ?_
      refine lv_aload_n hx hb dX6_layTable_3 rfl (lv_at hl 0 rfl) ?_
      obtain ⟨q_1, hq_1, hM⟩ := on_bind hM
      refine on_callV (rest := [.int v3]) (As := []) (st1 := [.int q_1, .int v3]) (C := RX6) (ci := 6) (q0 := 0) (wc := [(h_t, .inr (6, [.ref h_t_state, .ref h_t_images, .ref h_t_isKept, .ref h_t_pad, .int t_said, .int t_leastSize, .int t_leastSet, .int t_found, .ref h_t_row, .ref h_t_isUsed, .ref h_t_table, .int t_rank, .long t_determinant])), (h_t_state, .inl (cI, 4, .inl t_state))]) (wr := [(h_t_table, .inl (cJ, 49, .inr (.inl t_table)))]) (wc' := [(h_t, .inr (6, [.ref h_t_state, .ref h_t_images, .ref h_t_isKept, .ref h_t_pad, .int t_said, .int t_leastSize, .int t_leastSet, .int t_found, .ref h_t_row, .ref h_t_isUsed, .ref h_t_table, .int t_rank, .long t_determinant])), (h_t_state, .inl (cI, 4, .inl t_state))]) (wf := [(h_t, .inr (6, [.ref h_t_state, .ref h_t_images, .ref h_t_isKept, .ref h_t_pad, .int t_said, .int t_leastSize, .int t_leastSet, .int t_found, .ref h_t_row, .ref h_t_isUsed, .ref h_t_table, .int t_rank, .long t_determinant])), (h_t_state, .inl (cI, 4, .inl t_state)), (h_t_table, .inl (cJ, 49, .inr (.inl t_table)))]) (rt := (some (.int q_1))) ⟨hx, hb, hml, hown, hts⟩ (k_X6_many h_t h_t_state h_t_images h_t_isKept h_t_pad h_t_row h_t_isUsed h_t_table t_said t_leastSize t_leastSet t_found t_rank t_determinant t_state q_1 hq_1) (cwV 0 hts gX6_layTable_X6_many rfl rfl rfl ⟨rfl, hdX6_many⟩ ⟨(Nat.le_of_ble_eq_true rfl), (Nat.le_of_ble_eq_true rfl)⟩) hK hN hP hD hS hA [0, 1] [2] [1, 2, 0] rfl rfl rfl rfl (by decide) rfl rfl rfl rfl rfl rfl hl.1 rfl (Nat.le_of_ble_eq_true rfl) rfl dX6_layTable_4 ⟨Nat.zero_le _, Nat.zero_le _⟩ (fun H locs hP hD hS => ?_)
      refine lv_icmp_ge (tgt := 74) hx hb dX6_layTable_7 (by decide) (fun c_2 => ?_) (fun c_2 => ?_)
      · have hM := on_pos c_2 hM
        have hk := on_nxR hM hk
        subst hk
        exact K1 _ _ hP hD hS ls (lv_sub hl [] rfl)
      · have hM := on_neg c_2 hM
        refine lv_iconst (v := 0) hx hb dX6_layTable_10 (by decide) ?_
        refine lv_istore (lv' := [(4, .int (0 : Int32)), (0, .ref h_t), (1, .int v1), (2, .int v2), (3, .int v3)]) hx hb dX6_layTable_11 hl (by decide) rfl (fun ls hl => ?_)
        obtain ⟨q_12, hq_12, hM⟩ := on_bind hM
        refine lp_13 v1 v2 v3 on_F (0 : Int32) t_table q_12 hq_12 (fun H locs hP hD hS ls hl => ?_) H locs hP hD hS ls (lv_sub hl [1, 2, 3, 4, 0] rfl)
        obtain ⟨v3_13, ev3_13⟩ : ∃ z : Int32, z = v3 + 1 := ⟨_, rfl⟩
        have hM := on_letE ev3_13 hM
        refine lv_iinc (v := v3_13) (lv' := [(3, .int v3_13), (0, .ref h_t), (1, .int v1), (2, .int v2)]) hx hb dX6_layTable_68 hl (k := 3) rfl (by rw [ev3_13]; rfl) (by decide) rfl (fun ls hl => ?_)
        refine lv_goto (tgt := 2) hx hb dX6_layTable_71 (by decide) ?_
        have hk := on_nxL hM hk
        exact ih v3_13 q_12 _ hk K1 _ _ hP hD hS ls (lv_sub hl [1, 2, 3, 0] rfl)
  refine lv_iconst (v := 0) hx hb dX6_layTable_0 (by decide) ?_
  refine lv_istore_n (lv' := [(3, .int (0 : Int32)), (0, .ref h_t), (1, .int v1), (2, .int v2)]) hx hb dX6_layTable_1 rfl hl (by decide) rfl (fun ls hl => ?_)
  obtain ⟨q_14, hq_14, hM⟩ := on_bind hM
  refine lp_2 v1 v2 on_F (0 : Int32) t_table q_14 hq_14 (fun H locs hP hD hS ls hl => ?_) H locs hP hD hS ls (lv_sub hl [1, 2, 3, 0] rfl)
  have hM := Option.some.inj hM
  subst hM
  rw [← hQ]
  exact on_vret hx hb hr hlk hP hD hS dX6_layTable_74
abbrev rm_X6_swapRows : Room := { frames := 1, cells := 0, slots := 0, locals := 20 }
set_option maxHeartbeats 4000000 in
set_option maxRecDepth 100000 in
theorem k_X6_swapRows {l : Launch} {D : va_G} {cI cJ cZ cS cA : ClassId} (h_t : Nat) (h_t_state : Nat) (h_t_images : Nat) (h_t_isKept : Nat) (h_t_pad : Nat) (h_t_row : Nat) (h_t_isUsed : Nat) (h_t_table : Nat) (t_said : Int32) (t_leastSize : Int32) (t_leastSet : Int32) (t_found : Int32) (t_rank : Int32) (t_determinant : Int64) (t_state : Nat → Int32) (t_table : Nat → Int64) (v1 : Int32) (v2 : Int32) (out : (Nat → Int64)) (hM : M_X6_swapRows v1 v2 t_state t_table = some out) : on_Con l yX6_swapRows wsX6_swapRows rm_X6_swapRows [.ref h_t, .int v1, .int v2] D (on_T cI cJ cZ cS cA) [(h_t, .inr (6, [.ref h_t_state, .ref h_t_images, .ref h_t_isKept, .ref h_t_pad, .int t_said, .int t_leastSize, .int t_leastSet, .int t_found, .ref h_t_row, .ref h_t_isUsed, .ref h_t_table, .int t_rank, .long t_determinant])), (h_t_state, .inl (cI, 4, .inl t_state)), (h_t_table, .inl (cJ, 49, .inr (.inl t_table)))] none [(h_t, .inr (6, [.ref h_t_state, .ref h_t_images, .ref h_t_isKept, .ref h_t_pad, .int t_said, .int t_leastSize, .int t_leastSet, .int t_found, .ref h_t_row, .ref h_t_isUsed, .ref h_t_table, .int t_rank, .long t_determinant])), (h_t_state, .inl (cI, 4, .inl t_state)), (h_t_table, .inl (cJ, 49, .inr (.inl out)))] := by
  unfold M_X6_swapRows at hM
  refine on_enter (cc := cX6_swapRows) (nL := 6) (rt := none) (own := RX6) (by decide +kernel) rfl rfl (Nat.le_of_ble_eq_true rfl) ?_
  intro p e s m below meth c A ls hx hb hml hr hlk hts hown hA hK hN H locs hP hD hS hl
  have hl : lv_has ls 6 [(0, .ref h_t), (1, .int v1), (2, .int v2)] := hl
  generalize hQ : MQ below (on_Q D none [(h_t, .inr (6, [.ref h_t_state, .ref h_t_images, .ref h_t_isKept, .ref h_t_pad, .int t_said, .int t_leastSize, .int t_leastSet, .int t_found, .ref h_t_row, .ref h_t_isUsed, .ref h_t_table, .int t_rank, .long t_determinant])), (h_t_state, .inl (cI, 4, .inl t_state)), (h_t_table, .inl (cJ, 49, .inr (.inl out)))] A) _ s 0 0 A = Q
  generalize hAr : List.toArray ([.ref h_t, .int v1, .int v2] : List Value) = args at hts hQ ⊢
  have w1 := hts (.fieldLink RX6 29 "OddNetsModel" "table" "[J") (by decide +kernel)
  have w2 : ∀ w ∈ wsX60, w ∈ wsX6_swapRows := by decide +kernel
  have lp_2 : ∀ (v1 : Int32) (v2 : Int32), ∀ (n : Nat) (v3 : Int32) (t_table : Nat → Int64) (x : (Nat → Int64)), on_loop (fun (s : Int32 × (Nat → Int64)) => B_X6_swapRows_2 v1 v2 t_state s.1 s.2) n (v3, t_table) = some x → (∀ (H : Heap) (locs : List Loc), va_P D vwCl [(h_t, .inr (6, [.ref h_t_state, .ref h_t_images, .ref h_t_isKept, .ref h_t_pad, .int t_said, .int t_leastSize, .int t_leastSet, .int t_found, .ref h_t_row, .ref h_t_isUsed, .ref h_t_table, .int t_rank, .long t_determinant])), (h_t_state, .inl (cI, 4, .inl t_state)), (h_t_table, .inl (cJ, 49, .inr (.inl x)))] H → va_D A [(h_t, .inr (6, [.ref h_t_state, .ref h_t_images, .ref h_t_isKept, .ref h_t_pad, .int t_said, .int t_leastSize, .int t_leastSet, .int t_found, .ref h_t_row, .ref h_t_isUsed, .ref h_t_table, .int t_rank, .long t_determinant])), (h_t_state, .inl (cI, 4, .inl t_state)), (h_t_table, .inl (cJ, 49, .inr (.inl x)))] → va_S A s.heap H locs → ∀ ls : Array Slot, lv_has ls 6 [] → W p l e rm_X6_swapRows s m args below meth c H locs 0 0 Q (F0 m 64 ls [])) → ∀ (H : Heap) (locs : List Loc), va_P D vwCl [(h_t, .inr (6, [.ref h_t_state, .ref h_t_images, .ref h_t_isKept, .ref h_t_pad, .int t_said, .int t_leastSize, .int t_leastSet, .int t_found, .ref h_t_row, .ref h_t_isUsed, .ref h_t_table, .int t_rank, .long t_determinant])), (h_t_state, .inl (cI, 4, .inl t_state)), (h_t_table, .inl (cJ, 49, .inr (.inl t_table)))] H → va_D A [(h_t, .inr (6, [.ref h_t_state, .ref h_t_images, .ref h_t_isKept, .ref h_t_pad, .int t_said, .int t_leastSize, .int t_leastSet, .int t_found, .ref h_t_row, .ref h_t_isUsed, .ref h_t_table, .int t_rank, .long t_determinant])), (h_t_state, .inl (cI, 4, .inl t_state)), (h_t_table, .inl (cJ, 49, .inr (.inl t_table)))] → va_S A s.heap H locs → ∀ ls : Array Slot, lv_has ls 6 [(0, .ref h_t), (1, .int v1), (2, .int v2), (3, .int v3)] → W p l e rm_X6_swapRows s m args below meth c H locs 0 0 Q (F0 m 2 ls []) := by
    intro v1 v2
    intro n
    induction n with
    | zero =>
      intro v3 t_table x hL
      exact (on_loop0 hL).elim
    | succ n ih =>
      intro v3 t_table x hL K1 H locs hP hD hS ls hl
      obtain ⟨y, hM, hk⟩ := on_loopE hL
      have hM : B_X6_swapRows_2 v1 v2 t_state v3 t_table = some y := hM
      unfold B_X6_swapRows_2 at hM
      refine lv_iload_n hx hb dX6_swapRows_2 rfl (lv_at hl 3 rfl) ?_
      refine lv_aload_n hx hb dX6_swapRows_3 rfl (lv_at hl 0 rfl) ?_
      obtain ⟨q_1, hq_1, hM⟩ := on_bind hM
      refine on_callV (rest := [.int v3]) (As := []) (st1 := [.int q_1, .int v3]) (C := RX6) (ci := 6) (q0 := 0) (wc := [(h_t, .inr (6, [.ref h_t_state, .ref h_t_images, .ref h_t_isKept, .ref h_t_pad, .int t_said, .int t_leastSize, .int t_leastSet, .int t_found, .ref h_t_row, .ref h_t_isUsed, .ref h_t_table, .int t_rank, .long t_determinant])), (h_t_state, .inl (cI, 4, .inl t_state))]) (wr := [(h_t_table, .inl (cJ, 49, .inr (.inl t_table)))]) (wc' := [(h_t, .inr (6, [.ref h_t_state, .ref h_t_images, .ref h_t_isKept, .ref h_t_pad, .int t_said, .int t_leastSize, .int t_leastSet, .int t_found, .ref h_t_row, .ref h_t_isUsed, .ref h_t_table, .int t_rank, .long t_determinant])), (h_t_state, .inl (cI, 4, .inl t_state))]) (wf := [(h_t, .inr (6, [.ref h_t_state, .ref h_t_images, .ref h_t_isKept, .ref h_t_pad, .int t_said, .int t_leastSize, .int t_leastSet, .int t_found, .ref h_t_row, .ref h_t_isUsed, .ref h_t_table, .int t_rank, .long t_determinant])), (h_t_state, .inl (cI, 4, .inl t_state)), (h_t_table, .inl (cJ, 49, .inr (.inl t_table)))]) (rt := (some (.int q_1))) ⟨hx, hb, hml, hown, hts⟩ (k_X6_many h_t h_t_state h_t_images h_t_isKept h_t_pad h_t_row h_t_isUsed h_t_table t_said t_leastSize t_leastSet t_found t_rank t_determinant t_state q_1 hq_1) (cwV 0 hts gX6_swapRows_X6_many rfl rfl rfl ⟨rfl, hdX6_many⟩ ⟨(Nat.le_of_ble_eq_true rfl), (Nat.le_of_ble_eq_true rfl)⟩) hK hN hP hD hS hA [0, 1] [2] [1, 2, 0] rfl rfl rfl rfl (by decide) rfl rfl rfl rfl rfl rfl hl.1 rfl (Nat.le_of_ble_eq_true rfl) rfl dX6_swapRows_4 ⟨Nat.zero_le _, Nat.zero_le _⟩ (fun H locs hP hD hS => ?_)
      refine lv_icmp_ge (tgt := 64) hx hb dX6_swapRows_7 (by decide) (fun c_2 => ?_) (fun c_2 => ?_)
      · have hM := on_pos c_2 hM
        have hk := on_nxR hM hk
        subst hk
        exact K1 _ _ hP hD hS ls (lv_sub hl [] rfl)
      · have hM := on_neg c_2 hM
        refine lv_aload_n hx hb dX6_swapRows_10 rfl (lv_at hl 0 rfl) ?_
        refine va_get (D := D) (ci := 6) (v := .ref h_t_table) (C := RX6) (T := TX6) (N := 13) hx hb hts w2 hown hK hP 0 rfl rfl 10 (by decide) w1 (fun _ h9 => h9) rfl dX6_swapRows_11 ?_
        refine lv_bipush (v := 7) hx hb dX6_swapRows_14 (by decide) ?_
        refine lv_iload_n hx hb dX6_swapRows_16 rfl (lv_at hl 1 rfl) ?_
        refine lv_imul hx hb dX6_swapRows_17 ?_
        refine lv_iload_n hx hb dX6_swapRows_18 rfl (lv_at hl 3 rfl) ?_
        refine lv_iadd hx hb dX6_swapRows_19 ?_
        obtain ⟨g_3, hM⟩ := on_gdE hM
        refine va_lald hx hb hK hP 2 1 rfl rfl (on_ixE g_3) dX6_swapRows_20 ?_
        refine lv_topl (fun v4_4 ev4_4 => ?_)
        have hM := on_letE ev4_4 hM
        refine lv_lstore (lv' := [(4, .long v4_4), (0, .ref h_t), (1, .int v1), (2, .int v2), (3, .int v3)]) hx hb dX6_swapRows_21 hl (by decide) rfl (fun ls hl => ?_)
        refine lv_aload_n hx hb dX6_swapRows_23 rfl (lv_at hl 1 rfl) ?_
        refine va_get (D := D) (ci := 6) (v := .ref h_t_table) (C := RX6) (T := TX6) (N := 13) hx hb hts w2 hown hK hP 0 rfl rfl 10 (by decide) w1 (fun _ h9 => h9) rfl dX6_swapRows_24 ?_
        refine lv_bipush (v := 7) hx hb dX6_swapRows_27 (by decide) ?_
        refine lv_iload_n hx hb dX6_swapRows_29 rfl (lv_at hl 2 rfl) ?_
        refine lv_imul hx hb dX6_swapRows_30 ?_
        refine lv_iload_n hx hb dX6_swapRows_31 rfl (lv_at hl 4 rfl) ?_
        refine lv_iadd hx hb dX6_swapRows_32 ?_
        refine lv_aload_n hx hb dX6_swapRows_33 rfl (lv_at hl 1 rfl) ?_
        refine va_get (D := D) (ci := 6) (v := .ref h_t_table) (C := RX6) (T := TX6) (N := 13) hx hb hts w2 hown hK hP 0 rfl rfl 10 (by decide) w1 (fun _ h9 => h9) rfl dX6_swapRows_34 ?_
        refine lv_bipush (v := 7) hx hb dX6_swapRows_37 (by decide) ?_
        refine lv_iload_n hx hb dX6_swapRows_39 rfl (lv_at hl 3 rfl) ?_
        refine lv_imul hx hb dX6_swapRows_40 ?_
        refine lv_iload_n hx hb dX6_swapRows_41 rfl (lv_at hl 4 rfl) ?_
        refine lv_iadd hx hb dX6_swapRows_42 ?_
        obtain ⟨g_5, hM⟩ := on_gdE hM
        refine va_lald hx hb hK hP 2 1 rfl rfl (on_ixE g_5) dX6_swapRows_43 ?_
        obtain ⟨g_6, hM⟩ := on_gdE hM
        refine va_last hx hb hK hP hD hS 2 1 rfl rfl (on_ixE g_6) dX6_swapRows_44 (fun H locs hP hD hS => ?_)
        have hP : va_P D vwCl [(h_t, .inr (6, [.ref h_t_state, .ref h_t_images, .ref h_t_isKept, .ref h_t_pad, .int t_said, .int t_leastSize, .int t_leastSet, .int t_found, .ref h_t_row, .ref h_t_isUsed, .ref h_t_table, .int t_rank, .long t_determinant])), (h_t_state, .inl (cI, 4, .inl t_state)), (h_t_table, .inl (cJ, 49, .inr (.inl (vp_updL t_table (Int32.toNatClampNeg (((7 : Int32) * v1) + v3)) (t_table (Int32.toNatClampNeg (((7 : Int32) * v2) + v3)))))))] H := hP
        have hD : va_D A [(h_t, .inr (6, [.ref h_t_state, .ref h_t_images, .ref h_t_isKept, .ref h_t_pad, .int t_said, .int t_leastSize, .int t_leastSet, .int t_found, .ref h_t_row, .ref h_t_isUsed, .ref h_t_table, .int t_rank, .long t_determinant])), (h_t_state, .inl (cI, 4, .inl t_state)), (h_t_table, .inl (cJ, 49, .inr (.inl (vp_updL t_table (Int32.toNatClampNeg (((7 : Int32) * v1) + v3)) (t_table (Int32.toNatClampNeg (((7 : Int32) * v2) + v3)))))))] := hD
        refine lv_aload_n hx hb dX6_swapRows_45 rfl (lv_at hl 1 rfl) ?_
        refine va_get (D := D) (ci := 6) (v := .ref h_t_table) (C := RX6) (T := TX6) (N := 13) hx hb hts w2 hown hK hP 0 rfl rfl 10 (by decide) w1 (fun _ h9 => h9) rfl dX6_swapRows_46 ?_
        refine lv_bipush (v := 7) hx hb dX6_swapRows_49 (by decide) ?_
        refine lv_iload_n hx hb dX6_swapRows_51 rfl (lv_at hl 3 rfl) ?_
        refine lv_imul hx hb dX6_swapRows_52 ?_
        refine lv_iload_n hx hb dX6_swapRows_53 rfl (lv_at hl 4 rfl) ?_
        refine lv_iadd hx hb dX6_swapRows_54 ?_
        refine lv_lload hx hb dX6_swapRows_55 (lv_at hl 0 rfl) ?_
        obtain ⟨g_7, hM⟩ := on_gdE hM
        refine va_last hx hb hK hP hD hS 2 1 rfl rfl (on_ixE g_7) dX6_swapRows_57 (fun H locs hP hD hS => ?_)
        have hP : va_P D vwCl [(h_t, .inr (6, [.ref h_t_state, .ref h_t_images, .ref h_t_isKept, .ref h_t_pad, .int t_said, .int t_leastSize, .int t_leastSet, .int t_found, .ref h_t_row, .ref h_t_isUsed, .ref h_t_table, .int t_rank, .long t_determinant])), (h_t_state, .inl (cI, 4, .inl t_state)), (h_t_table, .inl (cJ, 49, .inr (.inl (vp_updL (vp_updL t_table (Int32.toNatClampNeg (((7 : Int32) * v1) + v3)) (t_table (Int32.toNatClampNeg (((7 : Int32) * v2) + v3)))) (Int32.toNatClampNeg (((7 : Int32) * v2) + v3)) v4_4))))] H := hP
        have hD : va_D A [(h_t, .inr (6, [.ref h_t_state, .ref h_t_images, .ref h_t_isKept, .ref h_t_pad, .int t_said, .int t_leastSize, .int t_leastSet, .int t_found, .ref h_t_row, .ref h_t_isUsed, .ref h_t_table, .int t_rank, .long t_determinant])), (h_t_state, .inl (cI, 4, .inl t_state)), (h_t_table, .inl (cJ, 49, .inr (.inl (vp_updL (vp_updL t_table (Int32.toNatClampNeg (((7 : Int32) * v1) + v3)) (t_table (Int32.toNatClampNeg (((7 : Int32) * v2) + v3)))) (Int32.toNatClampNeg (((7 : Int32) * v2) + v3)) v4_4))))] := hD
        obtain ⟨v3_8, ev3_8⟩ : ∃ z : Int32, z = v3 + 1 := ⟨_, rfl⟩
        have hM := on_letE ev3_8 hM
        refine lv_iinc (v := v3_8) (lv' := [(3, .int v3_8), (4, .long v4_4), (0, .ref h_t), (1, .int v1), (2, .int v2)]) hx hb dX6_swapRows_58 hl (k := 4) rfl (by rw [ev3_8]; rfl) (by decide) rfl (fun ls hl => ?_)
        refine lv_goto (tgt := 2) hx hb dX6_swapRows_61 (by decide) ?_
        have hk := on_nxL hM hk
        exact ih v3_8 (vp_updL (vp_updL t_table (Int32.toNatClampNeg (((7 : Int32) * v1) + v3)) (t_table (Int32.toNatClampNeg (((7 : Int32) * v2) + v3)))) (Int32.toNatClampNeg (((7 : Int32) * v2) + v3)) v4_4) _ hk K1 _ _ hP hD hS ls (lv_sub hl [2, 3, 4, 0] rfl)
  refine lv_iconst (v := 0) hx hb dX6_swapRows_0 (by decide) ?_
  refine lv_istore_n (lv' := [(3, .int (0 : Int32)), (0, .ref h_t), (1, .int v1), (2, .int v2)]) hx hb dX6_swapRows_1 rfl hl (by decide) rfl (fun ls hl => ?_)
  obtain ⟨q_9, hq_9, hM⟩ := on_bind hM
  refine lp_2 v1 v2 on_F (0 : Int32) t_table q_9 hq_9 (fun H locs hP hD hS ls hl => ?_) H locs hP hD hS ls (lv_sub hl [1, 2, 3, 0] rfl)
  have hM := Option.some.inj hM
  subst hM
  rw [← hQ]
  exact on_vret hx hb hr hlk hP hD hS dX6_swapRows_64
abbrev rm_X6_rowWith : Room := { frames := 1, cells := 0, slots := 0, locals := 20 }
set_option maxHeartbeats 4000000 in
set_option maxRecDepth 100000 in
theorem k_X6_rowWith {l : Launch} {D : va_G} {cI cJ cZ cS cA : ClassId} (h_t : Nat) (h_t_state : Nat) (h_t_images : Nat) (h_t_isKept : Nat) (h_t_pad : Nat) (h_t_row : Nat) (h_t_isUsed : Nat) (h_t_table : Nat) (t_said : Int32) (t_leastSize : Int32) (t_leastSet : Int32) (t_found : Int32) (t_rank : Int32) (t_determinant : Int64) (t_state : Nat → Int32) (t_table : Nat → Int64) (v1 : Int32) (v2 : Int32) (out : Int32) (hM : M_X6_rowWith v1 v2 t_state t_table = some out) : on_Con l yX6_rowWith wsX6_rowWith rm_X6_rowWith [.ref h_t, .int v1, .int v2] D (on_T cI cJ cZ cS cA) [(h_t, .inr (6, [.ref h_t_state, .ref h_t_images, .ref h_t_isKept, .ref h_t_pad, .int t_said, .int t_leastSize, .int t_leastSet, .int t_found, .ref h_t_row, .ref h_t_isUsed, .ref h_t_table, .int t_rank, .long t_determinant])), (h_t_state, .inl (cI, 4, .inl t_state)), (h_t_table, .inl (cJ, 49, .inr (.inl t_table)))] (some (.int out)) [(h_t, .inr (6, [.ref h_t_state, .ref h_t_images, .ref h_t_isKept, .ref h_t_pad, .int t_said, .int t_leastSize, .int t_leastSet, .int t_found, .ref h_t_row, .ref h_t_isUsed, .ref h_t_table, .int t_rank, .long t_determinant])), (h_t_state, .inl (cI, 4, .inl t_state)), (h_t_table, .inl (cJ, 49, .inr (.inl t_table)))] := by
  unfold M_X6_rowWith at hM
  refine on_enter (cc := cX6_rowWith) (nL := 4) (rt := (some .int)) (own := RX6) (by decide +kernel) rfl rfl (Nat.le_of_ble_eq_true rfl) ?_
  intro p e s m below meth c A ls hx hb hml hr hlk hts hown hA hK hN H locs hP hD hS hl
  have hl : lv_has ls 4 [(0, .ref h_t), (1, .int v1), (2, .int v2)] := hl
  generalize hQ : MQ below (on_Q D (some (.int out)) [(h_t, .inr (6, [.ref h_t_state, .ref h_t_images, .ref h_t_isKept, .ref h_t_pad, .int t_said, .int t_leastSize, .int t_leastSet, .int t_found, .ref h_t_row, .ref h_t_isUsed, .ref h_t_table, .int t_rank, .long t_determinant])), (h_t_state, .inl (cI, 4, .inl t_state)), (h_t_table, .inl (cJ, 49, .inr (.inl t_table)))] A) _ s 0 0 A = Q
  generalize hAr : List.toArray ([.ref h_t, .int v1, .int v2] : List Value) = args at hts hQ ⊢
  have w1 := hts (.fieldLink RX6 29 "OddNetsModel" "table" "[J") (by decide +kernel)
  have w2 : ∀ w ∈ wsX60, w ∈ wsX6_rowWith := by decide +kernel
  have lp_2 : ∀ (v1 : Int32), ∀ (n : Nat) (v3 : Int32) (x : Int32 ⊕ Unit), on_loop (fun (s : Int32) => B_X6_rowWith_2 v1 t_state t_table s) n v3 = some x → (∀ u, x = Sum.inr u → ∀ (H : Heap) (locs : List Loc), va_P D vwCl [(h_t, .inr (6, [.ref h_t_state, .ref h_t_images, .ref h_t_isKept, .ref h_t_pad, .int t_said, .int t_leastSize, .int t_leastSet, .int t_found, .ref h_t_row, .ref h_t_isUsed, .ref h_t_table, .int t_rank, .long t_determinant])), (h_t_state, .inl (cI, 4, .inl t_state)), (h_t_table, .inl (cJ, 49, .inr (.inl t_table)))] H → va_D A [(h_t, .inr (6, [.ref h_t_state, .ref h_t_images, .ref h_t_isKept, .ref h_t_pad, .int t_said, .int t_leastSize, .int t_leastSet, .int t_found, .ref h_t_row, .ref h_t_isUsed, .ref h_t_table, .int t_rank, .long t_determinant])), (h_t_state, .inl (cI, 4, .inl t_state)), (h_t_table, .inl (cJ, 49, .inr (.inl t_table)))] → va_S A s.heap H locs → ∀ ls : Array Slot, lv_has ls 4 [] → W p l e rm_X6_rowWith s m args below meth c H locs 0 0 Q (F0 m 34 ls [])) → (∀ o, x = Sum.inl o → o = out) → ∀ (H : Heap) (locs : List Loc), va_P D vwCl [(h_t, .inr (6, [.ref h_t_state, .ref h_t_images, .ref h_t_isKept, .ref h_t_pad, .int t_said, .int t_leastSize, .int t_leastSet, .int t_found, .ref h_t_row, .ref h_t_isUsed, .ref h_t_table, .int t_rank, .long t_determinant])), (h_t_state, .inl (cI, 4, .inl t_state)), (h_t_table, .inl (cJ, 49, .inr (.inl t_table)))] H → va_D A [(h_t, .inr (6, [.ref h_t_state, .ref h_t_images, .ref h_t_isKept, .ref h_t_pad, .int t_said, .int t_leastSize, .int t_leastSet, .int t_found, .ref h_t_row, .ref h_t_isUsed, .ref h_t_table, .int t_rank, .long t_determinant])), (h_t_state, .inl (cI, 4, .inl t_state)), (h_t_table, .inl (cJ, 49, .inr (.inl t_table)))] → va_S A s.heap H locs → ∀ ls : Array Slot, lv_has ls 4 [(0, .ref h_t), (1, .int v1), (3, .int v3)] → W p l e rm_X6_rowWith s m args below meth c H locs 0 0 Q (F0 m 2 ls []) := by
    intro v1
    intro n
    induction n with
    | zero =>
      intro v3 x hL
      exact (on_loop0 hL).elim
    | succ n ih =>
      intro v3 x hL K1 K2 H locs hP hD hS ls hl
      obtain ⟨y, hM, hk⟩ := on_loopE hL
      have hM : B_X6_rowWith_2 v1 t_state t_table v3 = some y := hM
      unfold B_X6_rowWith_2 at hM
      refine lv_iload_n hx hb dX6_rowWith_2 rfl (lv_at hl 2 rfl) ?_
      refine lv_aload_n hx hb dX6_rowWith_3 rfl (lv_at hl 0 rfl) ?_
      obtain ⟨q_1, hq_1, hM⟩ := on_bind hM
      refine on_callV (rest := [.int v3]) (As := []) (st1 := [.int q_1, .int v3]) (C := RX6) (ci := 6) (q0 := 0) (wc := [(h_t, .inr (6, [.ref h_t_state, .ref h_t_images, .ref h_t_isKept, .ref h_t_pad, .int t_said, .int t_leastSize, .int t_leastSet, .int t_found, .ref h_t_row, .ref h_t_isUsed, .ref h_t_table, .int t_rank, .long t_determinant])), (h_t_state, .inl (cI, 4, .inl t_state))]) (wr := [(h_t_table, .inl (cJ, 49, .inr (.inl t_table)))]) (wc' := [(h_t, .inr (6, [.ref h_t_state, .ref h_t_images, .ref h_t_isKept, .ref h_t_pad, .int t_said, .int t_leastSize, .int t_leastSet, .int t_found, .ref h_t_row, .ref h_t_isUsed, .ref h_t_table, .int t_rank, .long t_determinant])), (h_t_state, .inl (cI, 4, .inl t_state))]) (wf := [(h_t, .inr (6, [.ref h_t_state, .ref h_t_images, .ref h_t_isKept, .ref h_t_pad, .int t_said, .int t_leastSize, .int t_leastSet, .int t_found, .ref h_t_row, .ref h_t_isUsed, .ref h_t_table, .int t_rank, .long t_determinant])), (h_t_state, .inl (cI, 4, .inl t_state)), (h_t_table, .inl (cJ, 49, .inr (.inl t_table)))]) (rt := (some (.int q_1))) ⟨hx, hb, hml, hown, hts⟩ (k_X6_many h_t h_t_state h_t_images h_t_isKept h_t_pad h_t_row h_t_isUsed h_t_table t_said t_leastSize t_leastSet t_found t_rank t_determinant t_state q_1 hq_1) (cwV 0 hts gX6_rowWith_X6_many rfl rfl rfl ⟨rfl, hdX6_many⟩ ⟨(Nat.le_of_ble_eq_true rfl), (Nat.le_of_ble_eq_true rfl)⟩) hK hN hP hD hS hA [0, 1] [2] [1, 2, 0] rfl rfl rfl rfl (by decide) rfl rfl rfl rfl rfl rfl hl.1 rfl (Nat.le_of_ble_eq_true rfl) rfl dX6_rowWith_4 ⟨Nat.zero_le _, Nat.zero_le _⟩ (fun H locs hP hD hS => ?_)
      refine lv_icmp_ge (tgt := 34) hx hb dX6_rowWith_7 (by decide) (fun c_2 => ?_) (fun c_2 => ?_)
      · have hM := on_pos c_2 hM
        have hk := on_nxR hM hk
        subst hk
        exact K1 _ rfl _ _ hP hD hS ls (lv_sub hl [] rfl)
      · have hM := on_neg c_2 hM
        refine lv_aload_n hx hb dX6_rowWith_10 rfl (lv_at hl 0 rfl) ?_
        refine va_get (D := D) (ci := 6) (v := .ref h_t_table) (C := RX6) (T := TX6) (N := 13) hx hb hts w2 hown hK hP 0 rfl rfl 10 (by decide) w1 (fun _ h9 => h9) rfl dX6_rowWith_11 ?_
        refine lv_bipush (v := 7) hx hb dX6_rowWith_14 (by decide) ?_
        refine lv_iload_n hx hb dX6_rowWith_16 rfl (lv_at hl 2 rfl) ?_
        refine lv_imul hx hb dX6_rowWith_17 ?_
        refine lv_iload_n hx hb dX6_rowWith_18 rfl (lv_at hl 1 rfl) ?_
        refine lv_iadd hx hb dX6_rowWith_19 ?_
        obtain ⟨g_3, hM⟩ := on_gdE hM
        refine va_lald hx hb hK hP 2 1 rfl rfl (on_ixE g_3) dX6_rowWith_20 ?_
        refine lv_lconst (v := 0) hx hb dX6_rowWith_21 (by decide) ?_
        refine W.lcmp hx hb dX6_rowWith_22 ?_
        refine lv_if_eq (tgt := 28) hx hb dX6_rowWith_23 (by decide) (fun c_4 => ?_) (fun c_4 => ?_)
        · have hM := on_pos c_4 hM
          obtain ⟨v3_5, ev3_5⟩ : ∃ z : Int32, z = v3 + 1 := ⟨_, rfl⟩
          have hM := on_letE ev3_5 hM
          refine lv_iinc (v := v3_5) (lv' := [(3, .int v3_5), (0, .ref h_t), (1, .int v1)]) hx hb dX6_rowWith_28 hl (k := 2) rfl (by rw [ev3_5]; rfl) (by decide) rfl (fun ls hl => ?_)
          refine lv_goto (tgt := 2) hx hb dX6_rowWith_31 (by decide) ?_
          have hk := on_nxL hM hk
          exact ih v3_5 _ hk K1 K2 _ _ hP hD hS ls (lv_sub hl [1, 2, 0] rfl)
        · have hM := on_neg c_4 hM
          refine lv_iload_n hx hb dX6_rowWith_26 rfl (lv_at hl 2 rfl) ?_
          have hk := on_nxR hM hk
          subst hk
          have ho := K2 _ rfl
          subst ho
          rw [← hQ]
          exact on_iret hx hb hr hlk hP hD hS dX6_rowWith_27
  refine lv_iload_n hx hb dX6_rowWith_0 rfl (lv_at hl 2 rfl) ?_
  refine lv_istore_n (lv' := [(3, .int v2), (0, .ref h_t), (1, .int v1), (2, .int v2)]) hx hb dX6_rowWith_1 rfl hl (by decide) rfl (fun ls hl => ?_)
  obtain ⟨q_6, hq_6, hM⟩ := on_bind hM
  refine lp_2 v1 on_F v2 q_6 hq_6 (fun u_7 hv H locs hP hD hS ls hl => ?_) (fun o ho => ?_) H locs hP hD hS ls (lv_sub hl [1, 2, 0] rfl)
  · subst hv
    have hM := on_elR hM
    refine lv_bipush (v := -6) hx hb dX6_rowWith_34 (by decide) ?_
    have hM := Option.some.inj hM
    subst hM
    rw [← hQ]
    exact on_iret hx hb hr hlk hP hD hS dX6_rowWith_36
  · subst ho
    have hM := on_elL hM
    exact Option.some.inj hM
abbrev rm_X6_clearBelow : Room := { frames := 1, cells := 0, slots := 0, locals := 20 }
set_option maxHeartbeats 4000000 in
set_option maxRecDepth 100000 in
theorem k_X6_clearBelow {l : Launch} {D : va_G} {cI cJ cZ cS cA : ClassId} (h_t : Nat) (h_t_state : Nat) (h_t_images : Nat) (h_t_isKept : Nat) (h_t_pad : Nat) (h_t_row : Nat) (h_t_isUsed : Nat) (h_t_table : Nat) (t_said : Int32) (t_leastSize : Int32) (t_leastSet : Int32) (t_found : Int32) (t_rank : Int32) (t_determinant : Int64) (t_state : Nat → Int32) (t_table : Nat → Int64) (v1 : Int32) (v2 : Int32) (v3 : Int64) (out : (Nat → Int64)) (hM : M_X6_clearBelow v1 v2 v3 t_state t_table = some out) : on_Con l yX6_clearBelow wsX6_clearBelow rm_X6_clearBelow [.ref h_t, .int v1, .int v2, .long v3] D (on_T cI cJ cZ cS cA) [(h_t, .inr (6, [.ref h_t_state, .ref h_t_images, .ref h_t_isKept, .ref h_t_pad, .int t_said, .int t_leastSize, .int t_leastSet, .int t_found, .ref h_t_row, .ref h_t_isUsed, .ref h_t_table, .int t_rank, .long t_determinant])), (h_t_state, .inl (cI, 4, .inl t_state)), (h_t_table, .inl (cJ, 49, .inr (.inl t_table)))] none [(h_t, .inr (6, [.ref h_t_state, .ref h_t_images, .ref h_t_isKept, .ref h_t_pad, .int t_said, .int t_leastSize, .int t_leastSet, .int t_found, .ref h_t_row, .ref h_t_isUsed, .ref h_t_table, .int t_rank, .long t_determinant])), (h_t_state, .inl (cI, 4, .inl t_state)), (h_t_table, .inl (cJ, 49, .inr (.inl out)))] := by
  unfold M_X6_clearBelow at hM
  refine on_enter (cc := cX6_clearBelow) (nL := 11) (rt := none) (own := RX6) (by decide +kernel) rfl rfl (Nat.le_of_ble_eq_true rfl) ?_
  intro p e s m below meth c A ls hx hb hml hr hlk hts hown hA hK hN H locs hP hD hS hl
  have hl : lv_has ls 11 [(0, .ref h_t), (1, .int v1), (2, .int v2), (3, .long v3)] := hl
  generalize hQ : MQ below (on_Q D none [(h_t, .inr (6, [.ref h_t_state, .ref h_t_images, .ref h_t_isKept, .ref h_t_pad, .int t_said, .int t_leastSize, .int t_leastSet, .int t_found, .ref h_t_row, .ref h_t_isUsed, .ref h_t_table, .int t_rank, .long t_determinant])), (h_t_state, .inl (cI, 4, .inl t_state)), (h_t_table, .inl (cJ, 49, .inr (.inl out)))] A) _ s 0 0 A = Q
  generalize hAr : List.toArray ([.ref h_t, .int v1, .int v2, .long v3] : List Value) = args at hts hQ ⊢
  have w1 := hts (.fieldLink RX6 29 "OddNetsModel" "table" "[J") (by decide +kernel)
  have w2 : ∀ w ∈ wsX60, w ∈ wsX6_clearBelow := by decide +kernel
  have lp_44 : ∀ (v1 : Int32) (v2 : Int32) (v3 : Int64) (v5 : Int64) (v7 : Int32) (v8 : Int64), ∀ (n : Nat) (v10 : Int32) (t_table : Nat → Int64) (x : (Nat → Int64)), on_loop (fun (s : Int32 × (Nat → Int64)) => B_X6_clearBelow_44 v1 v3 v5 v7 v8 t_state s.1 s.2) n (v10, t_table) = some x → (∀ (H : Heap) (locs : List Loc), va_P D vwCl [(h_t, .inr (6, [.ref h_t_state, .ref h_t_images, .ref h_t_isKept, .ref h_t_pad, .int t_said, .int t_leastSize, .int t_leastSet, .int t_found, .ref h_t_row, .ref h_t_isUsed, .ref h_t_table, .int t_rank, .long t_determinant])), (h_t_state, .inl (cI, 4, .inl t_state)), (h_t_table, .inl (cJ, 49, .inr (.inl x)))] H → va_D A [(h_t, .inr (6, [.ref h_t_state, .ref h_t_images, .ref h_t_isKept, .ref h_t_pad, .int t_said, .int t_leastSize, .int t_leastSet, .int t_found, .ref h_t_row, .ref h_t_isUsed, .ref h_t_table, .int t_rank, .long t_determinant])), (h_t_state, .inl (cI, 4, .inl t_state)), (h_t_table, .inl (cJ, 49, .inr (.inl x)))] → va_S A s.heap H locs → ∀ ls : Array Slot, lv_has ls 11 [(0, .ref h_t), (1, .int v1), (2, .int v2), (3, .long v3), (5, .long v5), (7, .int v7)] → W p l e rm_X6_clearBelow s m args below meth c H locs 0 0 Q (F0 m 106 ls [])) → ∀ (H : Heap) (locs : List Loc), va_P D vwCl [(h_t, .inr (6, [.ref h_t_state, .ref h_t_images, .ref h_t_isKept, .ref h_t_pad, .int t_said, .int t_leastSize, .int t_leastSet, .int t_found, .ref h_t_row, .ref h_t_isUsed, .ref h_t_table, .int t_rank, .long t_determinant])), (h_t_state, .inl (cI, 4, .inl t_state)), (h_t_table, .inl (cJ, 49, .inr (.inl t_table)))] H → va_D A [(h_t, .inr (6, [.ref h_t_state, .ref h_t_images, .ref h_t_isKept, .ref h_t_pad, .int t_said, .int t_leastSize, .int t_leastSet, .int t_found, .ref h_t_row, .ref h_t_isUsed, .ref h_t_table, .int t_rank, .long t_determinant])), (h_t_state, .inl (cI, 4, .inl t_state)), (h_t_table, .inl (cJ, 49, .inr (.inl t_table)))] → va_S A s.heap H locs → ∀ ls : Array Slot, lv_has ls 11 [(0, .ref h_t), (1, .int v1), (2, .int v2), (3, .long v3), (5, .long v5), (7, .int v7), (8, .long v8), (10, .int v10)] → W p l e rm_X6_clearBelow s m args below meth c H locs 0 0 Q (F0 m 44 ls []) := by
    intro v1 v2 v3 v5 v7 v8
    intro n
    induction n with
    | zero =>
      intro v10 t_table x hL
      exact (on_loop0 hL).elim
    | succ n ih =>
      intro v10 t_table x hL K1 H locs hP hD hS ls hl
      obtain ⟨y, hM, hk⟩ := on_loopE hL
      have hM : B_X6_clearBelow_44 v1 v3 v5 v7 v8 t_state v10 t_table = some y := hM
      unfold B_X6_clearBelow_44 at hM
      refine lv_iload hx hb dX6_clearBelow_44 (lv_at hl 7 rfl) ?_
      refine lv_aload_n hx hb dX6_clearBelow_46 rfl (lv_at hl 0 rfl) ?_
      obtain ⟨q_8, hq_8, hM⟩ := on_bind hM
      refine on_callV (rest := [.int v10]) (As := []) (st1 := [.int q_8, .int v10]) (C := RX6) (ci := 6) (q0 := 0) (wc := [(h_t, .inr (6, [.ref h_t_state, .ref h_t_images, .ref h_t_isKept, .ref h_t_pad, .int t_said, .int t_leastSize, .int t_leastSet, .int t_found, .ref h_t_row, .ref h_t_isUsed, .ref h_t_table, .int t_rank, .long t_determinant])), (h_t_state, .inl (cI, 4, .inl t_state))]) (wr := [(h_t_table, .inl (cJ, 49, .inr (.inl t_table)))]) (wc' := [(h_t, .inr (6, [.ref h_t_state, .ref h_t_images, .ref h_t_isKept, .ref h_t_pad, .int t_said, .int t_leastSize, .int t_leastSet, .int t_found, .ref h_t_row, .ref h_t_isUsed, .ref h_t_table, .int t_rank, .long t_determinant])), (h_t_state, .inl (cI, 4, .inl t_state))]) (wf := [(h_t, .inr (6, [.ref h_t_state, .ref h_t_images, .ref h_t_isKept, .ref h_t_pad, .int t_said, .int t_leastSize, .int t_leastSet, .int t_found, .ref h_t_row, .ref h_t_isUsed, .ref h_t_table, .int t_rank, .long t_determinant])), (h_t_state, .inl (cI, 4, .inl t_state)), (h_t_table, .inl (cJ, 49, .inr (.inl t_table)))]) (rt := (some (.int q_8))) ⟨hx, hb, hml, hown, hts⟩ (k_X6_many h_t h_t_state h_t_images h_t_isKept h_t_pad h_t_row h_t_isUsed h_t_table t_said t_leastSize t_leastSet t_found t_rank t_determinant t_state q_8 hq_8) (cwV 0 hts gX6_clearBelow_X6_many rfl rfl rfl ⟨rfl, hdX6_many⟩ ⟨(Nat.le_of_ble_eq_true rfl), (Nat.le_of_ble_eq_true rfl)⟩) hK hN hP hD hS hA [0, 1] [2] [1, 2, 0] rfl rfl rfl rfl (by decide) rfl rfl rfl rfl rfl rfl hl.1 rfl (Nat.le_of_ble_eq_true rfl) rfl dX6_clearBelow_47 ⟨Nat.zero_le _, Nat.zero_le _⟩ (fun H locs hP hD hS => ?_)
      refine lv_icmp_ge (tgt := 106) hx hb dX6_clearBelow_50 (by decide) (fun c_9 => ?_) (fun c_9 => ?_)
      · have hM := on_pos c_9 hM
        have hk := on_nxR hM hk
        subst hk
        exact K1 _ _ hP hD hS ls (lv_sub hl [0, 1, 2, 3, 4, 5] rfl)
      · have hM := on_neg c_9 hM
        refine lv_aload_n hx hb dX6_clearBelow_53 rfl (lv_at hl 0 rfl) ?_
        refine va_get (D := D) (ci := 6) (v := .ref h_t_table) (C := RX6) (T := TX6) (N := 13) hx hb hts w2 hown hK hP 0 rfl rfl 10 (by decide) w1 (fun _ h9 => h9) rfl dX6_clearBelow_54 ?_
        refine lv_bipush (v := 7) hx hb dX6_clearBelow_57 (by decide) ?_
        refine lv_iload hx hb dX6_clearBelow_59 (lv_at hl 5 rfl) ?_
        refine lv_imul hx hb dX6_clearBelow_61 ?_
        refine lv_iload hx hb dX6_clearBelow_62 (lv_at hl 7 rfl) ?_
        refine lv_iadd hx hb dX6_clearBelow_64 ?_
        refine lv_aload_n hx hb dX6_clearBelow_65 rfl (lv_at hl 0 rfl) ?_
        refine va_get (D := D) (ci := 6) (v := .ref h_t_table) (C := RX6) (T := TX6) (N := 13) hx hb hts w2 hown hK hP 0 rfl rfl 10 (by decide) w1 (fun _ h9 => h9) rfl dX6_clearBelow_66 ?_
        refine lv_bipush (v := 7) hx hb dX6_clearBelow_69 (by decide) ?_
        refine lv_iload hx hb dX6_clearBelow_71 (lv_at hl 5 rfl) ?_
        refine lv_imul hx hb dX6_clearBelow_73 ?_
        refine lv_iload hx hb dX6_clearBelow_74 (lv_at hl 7 rfl) ?_
        refine lv_iadd hx hb dX6_clearBelow_76 ?_
        obtain ⟨g_10, hM⟩ := on_gdE hM
        refine va_lald hx hb hK hP 2 1 rfl rfl (on_ixE g_10) dX6_clearBelow_77 ?_
        refine lv_lload hx hb dX6_clearBelow_78 (lv_at hl 4 rfl) ?_
        refine lv_lmul hx hb dX6_clearBelow_80 ?_
        refine lv_lload hx hb dX6_clearBelow_81 (lv_at hl 6 rfl) ?_
        refine lv_aload_n hx hb dX6_clearBelow_83 rfl (lv_at hl 0 rfl) ?_
        refine va_get (D := D) (ci := 6) (v := .ref h_t_table) (C := RX6) (T := TX6) (N := 13) hx hb hts w2 hown hK hP 0 rfl rfl 10 (by decide) w1 (fun _ h9 => h9) rfl dX6_clearBelow_84 ?_
        refine lv_bipush (v := 7) hx hb dX6_clearBelow_87 (by decide) ?_
        refine lv_iload_n hx hb dX6_clearBelow_89 rfl (lv_at hl 1 rfl) ?_
        refine lv_imul hx hb dX6_clearBelow_90 ?_
        refine lv_iload hx hb dX6_clearBelow_91 (lv_at hl 7 rfl) ?_
        refine lv_iadd hx hb dX6_clearBelow_93 ?_
        obtain ⟨g_11, hM⟩ := on_gdE hM
        refine va_lald hx hb hK hP 2 1 rfl rfl (on_ixE g_11) dX6_clearBelow_94 ?_
        refine lv_lmul hx hb dX6_clearBelow_95 ?_
        refine lv_lsub hx hb dX6_clearBelow_96 ?_
        refine lv_lload_n hx hb dX6_clearBelow_97 rfl (lv_at hl 3 rfl) ?_
        obtain ⟨g_12, hM⟩ := on_gdE hM
        refine lv_ldiv hx hb dX6_clearBelow_98 (on_nzLE g_12) ?_
        obtain ⟨g_13, hM⟩ := on_gdE hM
        refine va_last hx hb hK hP hD hS 2 1 rfl rfl (on_ixE g_13) dX6_clearBelow_99 (fun H locs hP hD hS => ?_)
        have hP : va_P D vwCl [(h_t, .inr (6, [.ref h_t_state, .ref h_t_images, .ref h_t_isKept, .ref h_t_pad, .int t_said, .int t_leastSize, .int t_leastSet, .int t_found, .ref h_t_row, .ref h_t_isUsed, .ref h_t_table, .int t_rank, .long t_determinant])), (h_t_state, .inl (cI, 4, .inl t_state)), (h_t_table, .inl (cJ, 49, .inr (.inl (vp_updL t_table (Int32.toNatClampNeg (((7 : Int32) * v7) + v10)) ((((t_table (Int32.toNatClampNeg (((7 : Int32) * v7) + v10))) * v5) - (v8 * (t_table (Int32.toNatClampNeg (((7 : Int32) * v1) + v10))))) / v3)))))] H := hP
        have hD : va_D A [(h_t, .inr (6, [.ref h_t_state, .ref h_t_images, .ref h_t_isKept, .ref h_t_pad, .int t_said, .int t_leastSize, .int t_leastSet, .int t_found, .ref h_t_row, .ref h_t_isUsed, .ref h_t_table, .int t_rank, .long t_determinant])), (h_t_state, .inl (cI, 4, .inl t_state)), (h_t_table, .inl (cJ, 49, .inr (.inl (vp_updL t_table (Int32.toNatClampNeg (((7 : Int32) * v7) + v10)) ((((t_table (Int32.toNatClampNeg (((7 : Int32) * v7) + v10))) * v5) - (v8 * (t_table (Int32.toNatClampNeg (((7 : Int32) * v1) + v10))))) / v3)))))] := hD
        obtain ⟨v10_14, ev10_14⟩ : ∃ z : Int32, z = v10 + 1 := ⟨_, rfl⟩
        have hM := on_letE ev10_14 hM
        refine lv_iinc (v := v10_14) (lv' := [(10, .int v10_14), (0, .ref h_t), (1, .int v1), (2, .int v2), (3, .long v3), (5, .long v5), (7, .int v7), (8, .long v8)]) hx hb dX6_clearBelow_100 hl (k := 7) rfl (by rw [ev10_14]; rfl) (by decide) rfl (fun ls hl => ?_)
        refine lv_goto (tgt := 44) hx hb dX6_clearBelow_103 (by decide) ?_
        have hk := on_nxL hM hk
        exact ih v10_14 (vp_updL t_table (Int32.toNatClampNeg (((7 : Int32) * v7) + v10)) ((((t_table (Int32.toNatClampNeg (((7 : Int32) * v7) + v10))) * v5) - (v8 * (t_table (Int32.toNatClampNeg (((7 : Int32) * v1) + v10))))) / v3)) _ hk K1 _ _ hP hD hS ls (lv_sub hl [1, 2, 3, 4, 5, 6, 7, 0] rfl)
  have lp_18 : ∀ (v1 : Int32) (v2 : Int32) (v3 : Int64) (v5 : Int64), ∀ (n : Nat) (v7 : Int32) (t_table : Nat → Int64) (x : (Nat → Int64)), on_loop (fun (s : Int32 × (Nat → Int64)) => B_X6_clearBelow_18 v1 v2 v3 v5 t_state s.1 s.2) n (v7, t_table) = some x → (∀ (H : Heap) (locs : List Loc), va_P D vwCl [(h_t, .inr (6, [.ref h_t_state, .ref h_t_images, .ref h_t_isKept, .ref h_t_pad, .int t_said, .int t_leastSize, .int t_leastSet, .int t_found, .ref h_t_row, .ref h_t_isUsed, .ref h_t_table, .int t_rank, .long t_determinant])), (h_t_state, .inl (cI, 4, .inl t_state)), (h_t_table, .inl (cJ, 49, .inr (.inl x)))] H → va_D A [(h_t, .inr (6, [.ref h_t_state, .ref h_t_images, .ref h_t_isKept, .ref h_t_pad, .int t_said, .int t_leastSize, .int t_leastSet, .int t_found, .ref h_t_row, .ref h_t_isUsed, .ref h_t_table, .int t_rank, .long t_determinant])), (h_t_state, .inl (cI, 4, .inl t_state)), (h_t_table, .inl (cJ, 49, .inr (.inl x)))] → va_S A s.heap H locs → ∀ ls : Array Slot, lv_has ls 11 [] → W p l e rm_X6_clearBelow s m args below meth c H locs 0 0 Q (F0 m 112 ls [])) → ∀ (H : Heap) (locs : List Loc), va_P D vwCl [(h_t, .inr (6, [.ref h_t_state, .ref h_t_images, .ref h_t_isKept, .ref h_t_pad, .int t_said, .int t_leastSize, .int t_leastSet, .int t_found, .ref h_t_row, .ref h_t_isUsed, .ref h_t_table, .int t_rank, .long t_determinant])), (h_t_state, .inl (cI, 4, .inl t_state)), (h_t_table, .inl (cJ, 49, .inr (.inl t_table)))] H → va_D A [(h_t, .inr (6, [.ref h_t_state, .ref h_t_images, .ref h_t_isKept, .ref h_t_pad, .int t_said, .int t_leastSize, .int t_leastSet, .int t_found, .ref h_t_row, .ref h_t_isUsed, .ref h_t_table, .int t_rank, .long t_determinant])), (h_t_state, .inl (cI, 4, .inl t_state)), (h_t_table, .inl (cJ, 49, .inr (.inl t_table)))] → va_S A s.heap H locs → ∀ ls : Array Slot, lv_has ls 11 [(0, .ref h_t), (1, .int v1), (2, .int v2), (3, .long v3), (5, .long v5), (7, .int v7)] → W p l e rm_X6_clearBelow s m args below meth c H locs 0 0 Q (F0 m 18 ls []) := by
    intro v1 v2 v3 v5
    intro n
    induction n with
    | zero =>
      intro v7 t_table x hL
      exact (on_loop0 hL).elim
    | succ n ih =>
      intro v7 t_table x hL K1 H locs hP hD hS ls hl
      obtain ⟨y, hM, hk⟩ := on_loopE hL
      have hM : B_X6_clearBelow_18 v1 v2 v3 v5 t_state v7 t_table = some y := hM
      unfold B_X6_clearBelow_18 at hM
      refine lv_iload hx hb dX6_clearBelow_18 (lv_at hl 5 rfl) ?_
      refine lv_aload_n hx hb dX6_clearBelow_20 rfl (lv_at hl 0 rfl) ?_
      obtain ⟨q_4, hq_4, hM⟩ := on_bind hM
      refine on_callV (rest := [.int v7]) (As := []) (st1 := [.int q_4, .int v7]) (C := RX6) (ci := 6) (q0 := 0) (wc := [(h_t, .inr (6, [.ref h_t_state, .ref h_t_images, .ref h_t_isKept, .ref h_t_pad, .int t_said, .int t_leastSize, .int t_leastSet, .int t_found, .ref h_t_row, .ref h_t_isUsed, .ref h_t_table, .int t_rank, .long t_determinant])), (h_t_state, .inl (cI, 4, .inl t_state))]) (wr := [(h_t_table, .inl (cJ, 49, .inr (.inl t_table)))]) (wc' := [(h_t, .inr (6, [.ref h_t_state, .ref h_t_images, .ref h_t_isKept, .ref h_t_pad, .int t_said, .int t_leastSize, .int t_leastSet, .int t_found, .ref h_t_row, .ref h_t_isUsed, .ref h_t_table, .int t_rank, .long t_determinant])), (h_t_state, .inl (cI, 4, .inl t_state))]) (wf := [(h_t, .inr (6, [.ref h_t_state, .ref h_t_images, .ref h_t_isKept, .ref h_t_pad, .int t_said, .int t_leastSize, .int t_leastSet, .int t_found, .ref h_t_row, .ref h_t_isUsed, .ref h_t_table, .int t_rank, .long t_determinant])), (h_t_state, .inl (cI, 4, .inl t_state)), (h_t_table, .inl (cJ, 49, .inr (.inl t_table)))]) (rt := (some (.int q_4))) ⟨hx, hb, hml, hown, hts⟩ (k_X6_many h_t h_t_state h_t_images h_t_isKept h_t_pad h_t_row h_t_isUsed h_t_table t_said t_leastSize t_leastSet t_found t_rank t_determinant t_state q_4 hq_4) (cwV 0 hts gX6_clearBelow_X6_many rfl rfl rfl ⟨rfl, hdX6_many⟩ ⟨(Nat.le_of_ble_eq_true rfl), (Nat.le_of_ble_eq_true rfl)⟩) hK hN hP hD hS hA [0, 1] [2] [1, 2, 0] rfl rfl rfl rfl (by decide) rfl rfl rfl rfl rfl rfl hl.1 rfl (Nat.le_of_ble_eq_true rfl) rfl dX6_clearBelow_21 ⟨Nat.zero_le _, Nat.zero_le _⟩ (fun H locs hP hD hS => ?_)
      refine lv_icmp_ge (tgt := 112) hx hb dX6_clearBelow_24 (by decide) (fun c_5 => ?_) (fun c_5 => ?_)
      · have hM := on_pos c_5 hM
        have hk := on_nxR hM hk
        subst hk
        exact K1 _ _ hP hD hS ls (lv_sub hl [] rfl)
      · have hM := on_neg c_5 hM
        refine lv_aload_n hx hb dX6_clearBelow_27 rfl (lv_at hl 0 rfl) ?_
        refine va_get (D := D) (ci := 6) (v := .ref h_t_table) (C := RX6) (T := TX6) (N := 13) hx hb hts w2 hown hK hP 0 rfl rfl 10 (by decide) w1 (fun _ h9 => h9) rfl dX6_clearBelow_28 ?_
        refine lv_bipush (v := 7) hx hb dX6_clearBelow_31 (by decide) ?_
        refine lv_iload hx hb dX6_clearBelow_33 (lv_at hl 5 rfl) ?_
        refine lv_imul hx hb dX6_clearBelow_35 ?_
        refine lv_iload_n hx hb dX6_clearBelow_36 rfl (lv_at hl 2 rfl) ?_
        refine lv_iadd hx hb dX6_clearBelow_37 ?_
        obtain ⟨g_6, hM⟩ := on_gdE hM
        refine va_lald hx hb hK hP 2 1 rfl rfl (on_ixE g_6) dX6_clearBelow_38 ?_
        refine lv_topl (fun v8_7 ev8_7 => ?_)
        have hM := on_letE ev8_7 hM
        refine lv_lstore (lv' := [(8, .long v8_7), (0, .ref h_t), (1, .int v1), (2, .int v2), (3, .long v3), (5, .long v5), (7, .int v7)]) hx hb dX6_clearBelow_39 hl (by decide) rfl (fun ls hl => ?_)
        refine lv_iconst (v := 0) hx hb dX6_clearBelow_41 (by decide) ?_
        refine lv_istore (lv' := [(10, .int (0 : Int32)), (8, .long v8_7), (0, .ref h_t), (1, .int v1), (2, .int v2), (3, .long v3), (5, .long v5), (7, .int v7)]) hx hb dX6_clearBelow_42 hl (by decide) rfl (fun ls hl => ?_)
        obtain ⟨q_15, hq_15, hM⟩ := on_bind hM
        refine lp_44 v1 v2 v3 v5 v7 v8_7 on_F (0 : Int32) t_table q_15 hq_15 (fun H locs hP hD hS ls hl => ?_) H locs hP hD hS ls (lv_sub hl [2, 3, 4, 5, 6, 7, 1, 0] rfl)
        obtain ⟨v7_16, ev7_16⟩ : ∃ z : Int32, z = v7 + 1 := ⟨_, rfl⟩
        have hM := on_letE ev7_16 hM
        refine lv_iinc (v := v7_16) (lv' := [(7, .int v7_16), (0, .ref h_t), (1, .int v1), (2, .int v2), (3, .long v3), (5, .long v5)]) hx hb dX6_clearBelow_106 hl (k := 5) rfl (by rw [ev7_16]; rfl) (by decide) rfl (fun ls hl => ?_)
        refine lv_goto (tgt := 18) hx hb dX6_clearBelow_109 (by decide) ?_
        have hk := on_nxL hM hk
        exact ih v7_16 q_15 _ hk K1 _ _ hP hD hS ls (lv_sub hl [1, 2, 3, 4, 5, 0] rfl)
  refine lv_aload_n hx hb dX6_clearBelow_0 rfl (lv_at hl 0 rfl) ?_
  refine va_get (D := D) (ci := 6) (v := .ref h_t_table) (C := RX6) (T := TX6) (N := 13) hx hb hts w2 hown hK hP 0 rfl rfl 10 (by decide) w1 (fun _ h9 => h9) rfl dX6_clearBelow_1 ?_
  refine lv_bipush (v := 7) hx hb dX6_clearBelow_4 (by decide) ?_
  refine lv_iload_n hx hb dX6_clearBelow_6 rfl (lv_at hl 1 rfl) ?_
  refine lv_imul hx hb dX6_clearBelow_7 ?_
  refine lv_iload_n hx hb dX6_clearBelow_8 rfl (lv_at hl 2 rfl) ?_
  refine lv_iadd hx hb dX6_clearBelow_9 ?_
  obtain ⟨g_1, hM⟩ := on_gdE hM
  refine va_lald hx hb hK hP 2 1 rfl rfl (on_ixE g_1) dX6_clearBelow_10 ?_
  refine lv_topl (fun v5_2 ev5_2 => ?_)
  have hM := on_letE ev5_2 hM
  refine lv_lstore (lv' := [(5, .long v5_2), (0, .ref h_t), (1, .int v1), (2, .int v2), (3, .long v3)]) hx hb dX6_clearBelow_11 hl (by decide) rfl (fun ls hl => ?_)
  refine lv_iload_n hx hb dX6_clearBelow_13 rfl (lv_at hl 2 rfl) ?_
  refine lv_iconst (v := 1) hx hb dX6_clearBelow_14 (by decide) ?_
  refine lv_iadd hx hb dX6_clearBelow_15 ?_
  refine lv_topi (fun v7_3 ev7_3 => ?_)
  have hM := on_letE ev7_3 hM
  refine lv_istore (lv' := [(7, .int v7_3), (5, .long v5_2), (0, .ref h_t), (1, .int v1), (2, .int v2), (3, .long v3)]) hx hb dX6_clearBelow_16 hl (by decide) rfl (fun ls hl => ?_)
  obtain ⟨q_17, hq_17, hM⟩ := on_bind hM
  refine lp_18 v1 v2 v3 v5_2 on_F v7_3 t_table q_17 hq_17 (fun H locs hP hD hS ls hl => ?_) H locs hP hD hS ls (lv_sub hl [2, 3, 4, 5, 1, 0] rfl)
  have hM := Option.some.inj hM
  subst hM
  rw [← hQ]
  exact on_vret hx hb hr hlk hP hD hS dX6_clearBelow_112
abbrev rm_X6_workOut : Room := { frames := 2, cells := 0, slots := 0, locals := 50 }
set_option maxHeartbeats 4000000 in
set_option maxRecDepth 100000 in
theorem k_X6_workOut {l : Launch} {D : va_G} {cI cJ cZ cS cA : ClassId} (h_t : Nat) (h_t_state : Nat) (h_t_images : Nat) (h_t_isKept : Nat) (h_t_pad : Nat) (h_t_row : Nat) (h_t_isUsed : Nat) (h_t_table : Nat) (t_said : Int32) (t_leastSize : Int32) (t_leastSet : Int32) (t_found : Int32) (t_rank : Int32) (t_determinant : Int64) (t_state : Nat → Int32) (t_table : Nat → Int64)  (out : Int32 × Int64 × (Nat → Int64)) (hM : M_X6_workOut t_state t_table = some out) : on_Con l yX6_workOut wsX6_workOut rm_X6_workOut [.ref h_t] D (on_T cI cJ cZ cS cA) [(h_t, .inr (6, [.ref h_t_state, .ref h_t_images, .ref h_t_isKept, .ref h_t_pad, .int t_said, .int t_leastSize, .int t_leastSet, .int t_found, .ref h_t_row, .ref h_t_isUsed, .ref h_t_table, .int t_rank, .long t_determinant])), (h_t_state, .inl (cI, 4, .inl t_state)), (h_t_table, .inl (cJ, 49, .inr (.inl t_table)))] none [(h_t, .inr (6, [.ref h_t_state, .ref h_t_images, .ref h_t_isKept, .ref h_t_pad, .int t_said, .int t_leastSize, .int t_leastSet, .int t_found, .ref h_t_row, .ref h_t_isUsed, .ref h_t_table, .int out.1, .long out.2.1])), (h_t_state, .inl (cI, 4, .inl t_state)), (h_t_table, .inl (cJ, 49, .inr (.inl out.2.2)))] := by
  unfold M_X6_workOut at hM
  refine on_enter (cc := cX6_workOut) (nL := 6) (rt := none) (own := RX6) (by decide +kernel) rfl rfl (Nat.le_of_ble_eq_true rfl) ?_
  intro p e s m below meth c A ls hx hb hml hr hlk hts hown hA hK hN H locs hP hD hS hl
  have hl : lv_has ls 6 [(0, .ref h_t)] := hl
  generalize hQ : MQ below (on_Q D none [(h_t, .inr (6, [.ref h_t_state, .ref h_t_images, .ref h_t_isKept, .ref h_t_pad, .int t_said, .int t_leastSize, .int t_leastSet, .int t_found, .ref h_t_row, .ref h_t_isUsed, .ref h_t_table, .int out.1, .long out.2.1])), (h_t_state, .inl (cI, 4, .inl t_state)), (h_t_table, .inl (cJ, 49, .inr (.inl out.2.2)))] A) _ s 0 0 A = Q
  generalize hAr : List.toArray ([.ref h_t] : List Value) = args at hts hQ ⊢
  have w1 := hts (.fieldLink RX6 180 "OddNetsModel" "rank" "I") (by decide +kernel)
  have w2 : ∀ w ∈ wsX60, w ∈ wsX6_workOut := by decide +kernel
  have w3 := hts (.fieldLink RX6 29 "OddNetsModel" "table" "[J") (by decide +kernel)
  have w4 := hts (.fieldLink RX6 193 "OddNetsModel" "determinant" "J") (by decide +kernel)
  have lp_12 : ∀ (t_determinant : Int64), ∀ (n : Nat) (v1 : Int64) (v3 : Int32) (v4 : Int32) (t_rank : Int32) (t_table : Nat → Int64) (x : Int64 × Int32 × Int32 × (Nat → Int64)), on_loop (fun (s : Int64 × Int32 × Int32 × Int32 × (Nat → Int64)) => B_X6_workOut_12 t_state s.1 s.2.1 s.2.2.1 s.2.2.2.1 s.2.2.2.2) n (v1, v3, v4, t_rank, t_table) = some x → (∀ (H : Heap) (locs : List Loc), va_P D vwCl [(h_t, .inr (6, [.ref h_t_state, .ref h_t_images, .ref h_t_isKept, .ref h_t_pad, .int t_said, .int t_leastSize, .int t_leastSet, .int t_found, .ref h_t_row, .ref h_t_isUsed, .ref h_t_table, .int x.2.2.1, .long t_determinant])), (h_t_state, .inl (cI, 4, .inl t_state)), (h_t_table, .inl (cJ, 49, .inr (.inl x.2.2.2)))] H → va_D A [(h_t, .inr (6, [.ref h_t_state, .ref h_t_images, .ref h_t_isKept, .ref h_t_pad, .int t_said, .int t_leastSize, .int t_leastSet, .int t_found, .ref h_t_row, .ref h_t_isUsed, .ref h_t_table, .int x.2.2.1, .long t_determinant])), (h_t_state, .inl (cI, 4, .inl t_state)), (h_t_table, .inl (cJ, 49, .inr (.inl x.2.2.2)))] → va_S A s.heap H locs → ∀ ls : Array Slot, lv_has ls 6 [(0, .ref h_t), (1, .long x.1), (3, .int x.2.1)] → W p l e rm_X6_workOut s m args below meth c H locs 0 0 Q (F0 m 107 ls [])) → ∀ (H : Heap) (locs : List Loc), va_P D vwCl [(h_t, .inr (6, [.ref h_t_state, .ref h_t_images, .ref h_t_isKept, .ref h_t_pad, .int t_said, .int t_leastSize, .int t_leastSet, .int t_found, .ref h_t_row, .ref h_t_isUsed, .ref h_t_table, .int t_rank, .long t_determinant])), (h_t_state, .inl (cI, 4, .inl t_state)), (h_t_table, .inl (cJ, 49, .inr (.inl t_table)))] H → va_D A [(h_t, .inr (6, [.ref h_t_state, .ref h_t_images, .ref h_t_isKept, .ref h_t_pad, .int t_said, .int t_leastSize, .int t_leastSet, .int t_found, .ref h_t_row, .ref h_t_isUsed, .ref h_t_table, .int t_rank, .long t_determinant])), (h_t_state, .inl (cI, 4, .inl t_state)), (h_t_table, .inl (cJ, 49, .inr (.inl t_table)))] → va_S A s.heap H locs → ∀ ls : Array Slot, lv_has ls 6 [(0, .ref h_t), (1, .long v1), (3, .int v3), (4, .int v4)] → W p l e rm_X6_workOut s m args below meth c H locs 0 0 Q (F0 m 12 ls []) := by
    intro t_determinant
    intro n
    induction n with
    | zero =>
      intro v1 v3 v4 t_rank t_table x hL
      exact (on_loop0 hL).elim
    | succ n ih =>
      intro v1 v3 v4 t_rank t_table x hL K1 H locs hP hD hS ls hl
      obtain ⟨y, hM, hk⟩ := on_loopE hL
      have hM : B_X6_workOut_12 t_state v1 v3 v4 t_rank t_table = some y := hM
      unfold B_X6_workOut_12 at hM
      refine lv_iload hx hb dX6_workOut_12 (lv_at hl 3 rfl) ?_
      refine lv_aload_n hx hb dX6_workOut_14 rfl (lv_at hl 0 rfl) ?_
      obtain ⟨q_1, hq_1, hM⟩ := on_bind hM
      refine on_callV (rest := [.int v4]) (As := []) (st1 := [.int q_1, .int v4]) (C := RX6) (ci := 6) (q0 := 0) (wc := [(h_t, .inr (6, [.ref h_t_state, .ref h_t_images, .ref h_t_isKept, .ref h_t_pad, .int t_said, .int t_leastSize, .int t_leastSet, .int t_found, .ref h_t_row, .ref h_t_isUsed, .ref h_t_table, .int t_rank, .long t_determinant])), (h_t_state, .inl (cI, 4, .inl t_state))]) (wr := [(h_t_table, .inl (cJ, 49, .inr (.inl t_table)))]) (wc' := [(h_t, .inr (6, [.ref h_t_state, .ref h_t_images, .ref h_t_isKept, .ref h_t_pad, .int t_said, .int t_leastSize, .int t_leastSet, .int t_found, .ref h_t_row, .ref h_t_isUsed, .ref h_t_table, .int t_rank, .long t_determinant])), (h_t_state, .inl (cI, 4, .inl t_state))]) (wf := [(h_t, .inr (6, [.ref h_t_state, .ref h_t_images, .ref h_t_isKept, .ref h_t_pad, .int t_said, .int t_leastSize, .int t_leastSet, .int t_found, .ref h_t_row, .ref h_t_isUsed, .ref h_t_table, .int t_rank, .long t_determinant])), (h_t_state, .inl (cI, 4, .inl t_state)), (h_t_table, .inl (cJ, 49, .inr (.inl t_table)))]) (rt := (some (.int q_1))) ⟨hx, hb, hml, hown, hts⟩ (k_X6_many h_t h_t_state h_t_images h_t_isKept h_t_pad h_t_row h_t_isUsed h_t_table t_said t_leastSize t_leastSet t_found t_rank t_determinant t_state q_1 hq_1) (cwV 0 hts gX6_workOut_X6_many rfl rfl rfl ⟨rfl, hdX6_many⟩ ⟨(Nat.le_of_ble_eq_true rfl), (Nat.le_of_ble_eq_true rfl)⟩) hK hN hP hD hS hA [0, 1] [2] [1, 2, 0] rfl rfl rfl rfl (by decide) rfl rfl rfl rfl rfl rfl hl.1 rfl (Nat.le_of_ble_eq_true rfl) rfl dX6_workOut_15 ⟨Nat.zero_le _, Nat.zero_le _⟩ (fun H locs hP hD hS => ?_)
      refine lv_icmp_ge (tgt := 107) hx hb dX6_workOut_18 (by decide) (fun c_2 => ?_) (fun c_2 => ?_)
      · have hM := on_pos c_2 hM
        have hk := on_nxR hM hk
        subst hk
        exact K1 _ _ hP hD hS ls (lv_sub hl [0, 1, 2] rfl)
      · have hM := on_neg c_2 hM
        refine lv_aload_n hx hb dX6_workOut_21 rfl (lv_at hl 0 rfl) ?_
        refine lv_iload hx hb dX6_workOut_22 (lv_at hl 3 rfl) ?_
        refine lv_aload_n hx hb dX6_workOut_24 rfl (lv_at hl 0 rfl) ?_
        refine va_get (D := D) (ci := 6) (v := .int t_rank) (C := RX6) (T := TX6) (N := 13) hx hb hts w2 hown hK hP 0 rfl rfl 11 (by decide) w1 (fun _ h9 => h9) rfl dX6_workOut_25 ?_
        obtain ⟨q_3, hq_3, hM⟩ := on_bind hM
        refine on_callV (rest := []) (As := [.int v4, .int t_rank]) (st1 := [.int q_3]) (C := RX6) (ci := 6) (q0 := 0) (wc := [(h_t, .inr (6, [.ref h_t_state, .ref h_t_images, .ref h_t_isKept, .ref h_t_pad, .int t_said, .int t_leastSize, .int t_leastSet, .int t_found, .ref h_t_row, .ref h_t_isUsed, .ref h_t_table, .int t_rank, .long t_determinant])), (h_t_state, .inl (cI, 4, .inl t_state)), (h_t_table, .inl (cJ, 49, .inr (.inl t_table)))]) (wr := []) (wc' := [(h_t, .inr (6, [.ref h_t_state, .ref h_t_images, .ref h_t_isKept, .ref h_t_pad, .int t_said, .int t_leastSize, .int t_leastSet, .int t_found, .ref h_t_row, .ref h_t_isUsed, .ref h_t_table, .int t_rank, .long t_determinant])), (h_t_state, .inl (cI, 4, .inl t_state)), (h_t_table, .inl (cJ, 49, .inr (.inl t_table)))]) (wf := [(h_t, .inr (6, [.ref h_t_state, .ref h_t_images, .ref h_t_isKept, .ref h_t_pad, .int t_said, .int t_leastSize, .int t_leastSet, .int t_found, .ref h_t_row, .ref h_t_isUsed, .ref h_t_table, .int t_rank, .long t_determinant])), (h_t_state, .inl (cI, 4, .inl t_state)), (h_t_table, .inl (cJ, 49, .inr (.inl t_table)))]) (rt := (some (.int q_3))) ⟨hx, hb, hml, hown, hts⟩ (k_X6_rowWith h_t h_t_state h_t_images h_t_isKept h_t_pad h_t_row h_t_isUsed h_t_table t_said t_leastSize t_leastSet t_found t_rank t_determinant t_state t_table v4 t_rank q_3 hq_3) (cwV 2 hts gX6_workOut_X6_rowWith rfl rfl rfl ⟨rfl, hdX6_rowWith⟩ ⟨(Nat.le_of_ble_eq_true rfl), (Nat.le_of_ble_eq_true rfl)⟩) hK hN hP hD hS hA [0, 1, 2] [] [0, 1, 2] rfl rfl rfl rfl (by decide) rfl rfl rfl rfl rfl rfl hl.1 rfl (Nat.le_of_ble_eq_true rfl) rfl dX6_workOut_28 ⟨Nat.zero_le _, Nat.zero_le _⟩ (fun H locs hP hD hS => ?_)
        refine lv_istore (lv' := [(5, .int q_3), (0, .ref h_t), (1, .long v1), (3, .int v3), (4, .int v4)]) hx hb dX6_workOut_31 hl (by decide) rfl (fun ls hl => ?_)
        refine lv_iload hx hb dX6_workOut_33 (lv_at hl 0 rfl) ?_
        refine lv_if_lt (tgt := 101) hx hb dX6_workOut_35 (by decide) (fun c_4 => ?_) (fun c_4 => ?_)
        · have hM := on_pos c_4 hM
          obtain ⟨v4_5, ev4_5⟩ : ∃ z : Int32, z = v4 + 1 := ⟨_, rfl⟩
          have hM := on_letE ev4_5 hM
          refine lv_iinc (v := v4_5) (lv' := [(4, .int v4_5), (5, .int q_3), (0, .ref h_t), (1, .long v1), (3, .int v3)]) hx hb dX6_workOut_101 hl (k := 4) rfl (by rw [ev4_5]; rfl) (by decide) rfl (fun ls hl => ?_)
          refine lv_goto (tgt := 12) hx hb dX6_workOut_104 (by decide) ?_
          have hk := on_nxL hM hk
          exact ih v1 v3 v4_5 t_rank t_table _ hk K1 _ _ hP hD hS ls (lv_sub hl [2, 3, 4, 0] rfl)
        · have hM := on_neg c_4 hM
          refine lv_iload hx hb dX6_workOut_38 (lv_at hl 0 rfl) ?_
          refine lv_aload_n hx hb dX6_workOut_40 rfl (lv_at hl 1 rfl) ?_
          refine va_get (D := D) (ci := 6) (v := .int t_rank) (C := RX6) (T := TX6) (N := 13) hx hb hts w2 hown hK hP 0 rfl rfl 11 (by decide) w1 (fun _ h9 => h9) rfl dX6_workOut_41 ?_
          refine lv_icmp_ne (tgt := 51) hx hb dX6_workOut_44 (by decide) (fun c_6 => ?_) (fun c_6 => ?_)
          · have hM := on_neg c_6 hM
            refine lv_iload_n hx hb dX6_workOut_51 rfl (lv_at hl 3 rfl) ?_
            refine lv_ineg hx hb dX6_workOut_52 ?_
            refine lv_topi (fun v3_7 ev3_7 => ?_)
            have hM := on_letE ev3_7 hM
            refine lv_istore_n (lv' := [(3, .int v3_7), (5, .int q_3), (0, .ref h_t), (1, .long v1), (4, .int v4)]) hx hb dX6_workOut_53 rfl hl (by decide) rfl (fun ls hl => ?_)
            refine lv_aload_n hx hb dX6_workOut_54 rfl (lv_at hl 2 rfl) ?_
            refine lv_aload_n hx hb dX6_workOut_55 rfl (lv_at hl 2 rfl) ?_
            refine va_get (D := D) (ci := 6) (v := .int t_rank) (C := RX6) (T := TX6) (N := 13) hx hb hts w2 hown hK hP 0 rfl rfl 11 (by decide) w1 (fun _ h9 => h9) rfl dX6_workOut_56 ?_
            refine lv_iload hx hb dX6_workOut_59 (lv_at hl 1 rfl) ?_
            obtain ⟨q_8, hq_8, hM⟩ := on_bind hM
            refine on_callV (rest := []) (As := [.int t_rank, .int q_3]) (st1 := []) (C := RX6) (ci := 6) (q0 := 0) (wc := [(h_t, .inr (6, [.ref h_t_state, .ref h_t_images, .ref h_t_isKept, .ref h_t_pad, .int t_said, .int t_leastSize, .int t_leastSet, .int t_found, .ref h_t_row, .ref h_t_isUsed, .ref h_t_table, .int t_rank, .long t_determinant])), (h_t_state, .inl (cI, 4, .inl t_state)), (h_t_table, .inl (cJ, 49, .inr (.inl t_table)))]) (wr := []) (wc' := [(h_t, .inr (6, [.ref h_t_state, .ref h_t_images, .ref h_t_isKept, .ref h_t_pad, .int t_said, .int t_leastSize, .int t_leastSet, .int t_found, .ref h_t_row, .ref h_t_isUsed, .ref h_t_table, .int t_rank, .long t_determinant])), (h_t_state, .inl (cI, 4, .inl t_state)), (h_t_table, .inl (cJ, 49, .inr (.inl q_8)))]) (wf := [(h_t, .inr (6, [.ref h_t_state, .ref h_t_images, .ref h_t_isKept, .ref h_t_pad, .int t_said, .int t_leastSize, .int t_leastSet, .int t_found, .ref h_t_row, .ref h_t_isUsed, .ref h_t_table, .int t_rank, .long t_determinant])), (h_t_state, .inl (cI, 4, .inl t_state)), (h_t_table, .inl (cJ, 49, .inr (.inl q_8)))]) (rt := none) ⟨hx, hb, hml, hown, hts⟩ (k_X6_swapRows h_t h_t_state h_t_images h_t_isKept h_t_pad h_t_row h_t_isUsed h_t_table t_said t_leastSize t_leastSet t_found t_rank t_determinant t_state t_table t_rank q_3 q_8 hq_8) (cwV 2 hts gX6_workOut_X6_swapRows rfl rfl rfl ⟨rfl, hdX6_swapRows⟩ ⟨(Nat.le_of_ble_eq_true rfl), (Nat.le_of_ble_eq_true rfl)⟩) hK hN hP hD hS hA [0, 1, 2] [] [0, 1, 2] rfl rfl rfl rfl (by decide) rfl rfl rfl rfl rfl rfl hl.1 rfl (Nat.le_of_ble_eq_true rfl) rfl dX6_workOut_61 ⟨Nat.zero_le _, Nat.zero_le _⟩ (fun H locs hP hD hS => ?_)
            refine lv_aload_n hx hb dX6_workOut_64 rfl (lv_at hl 2 rfl) ?_
            refine lv_aload_n hx hb dX6_workOut_65 rfl (lv_at hl 2 rfl) ?_
            refine va_get (D := D) (ci := 6) (v := .int t_rank) (C := RX6) (T := TX6) (N := 13) hx hb hts w2 hown hK hP 0 rfl rfl 11 (by decide) w1 (fun _ h9 => h9) rfl dX6_workOut_66 ?_
            refine lv_iload hx hb dX6_workOut_69 (lv_at hl 4 rfl) ?_
            refine lv_lload_n hx hb dX6_workOut_71 rfl (lv_at hl 3 rfl) ?_
            obtain ⟨q_9, hq_9, hM⟩ := on_bind hM
            refine on_callV (rest := []) (As := [.int t_rank, .int v4, .long v1]) (st1 := []) (C := RX6) (ci := 6) (q0 := 0) (wc := [(h_t, .inr (6, [.ref h_t_state, .ref h_t_images, .ref h_t_isKept, .ref h_t_pad, .int t_said, .int t_leastSize, .int t_leastSet, .int t_found, .ref h_t_row, .ref h_t_isUsed, .ref h_t_table, .int t_rank, .long t_determinant])), (h_t_state, .inl (cI, 4, .inl t_state)), (h_t_table, .inl (cJ, 49, .inr (.inl q_8)))]) (wr := []) (wc' := [(h_t, .inr (6, [.ref h_t_state, .ref h_t_images, .ref h_t_isKept, .ref h_t_pad, .int t_said, .int t_leastSize, .int t_leastSet, .int t_found, .ref h_t_row, .ref h_t_isUsed, .ref h_t_table, .int t_rank, .long t_determinant])), (h_t_state, .inl (cI, 4, .inl t_state)), (h_t_table, .inl (cJ, 49, .inr (.inl q_9)))]) (wf := [(h_t, .inr (6, [.ref h_t_state, .ref h_t_images, .ref h_t_isKept, .ref h_t_pad, .int t_said, .int t_leastSize, .int t_leastSet, .int t_found, .ref h_t_row, .ref h_t_isUsed, .ref h_t_table, .int t_rank, .long t_determinant])), (h_t_state, .inl (cI, 4, .inl t_state)), (h_t_table, .inl (cJ, 49, .inr (.inl q_9)))]) (rt := none) ⟨hx, hb, hml, hown, hts⟩ (k_X6_clearBelow h_t h_t_state h_t_images h_t_isKept h_t_pad h_t_row h_t_isUsed h_t_table t_said t_leastSize t_leastSet t_found t_rank t_determinant t_state q_8 t_rank v4 v1 q_9 hq_9) (cwV 3 hts gX6_workOut_X6_clearBelow rfl rfl rfl ⟨rfl, hdX6_clearBelow⟩ ⟨(Nat.le_of_ble_eq_true rfl), (Nat.le_of_ble_eq_true rfl)⟩) hK hN hP hD hS hA [0, 1, 2] [] [0, 1, 2] rfl rfl rfl rfl (by decide) rfl rfl rfl rfl rfl rfl hl.1 rfl (Nat.le_of_ble_eq_true rfl) rfl dX6_workOut_72 ⟨Nat.zero_le _, Nat.zero_le _⟩ (fun H locs hP hD hS => ?_)
            refine lv_aload_n hx hb dX6_workOut_75 rfl (lv_at hl 2 rfl) ?_
            refine va_get (D := D) (ci := 6) (v := .ref h_t_table) (C := RX6) (T := TX6) (N := 13) hx hb hts w2 hown hK hP 0 rfl rfl 10 (by decide) w3 (fun _ h9 => h9) rfl dX6_workOut_76 ?_
            refine lv_bipush (v := 7) hx hb dX6_workOut_79 (by decide) ?_
            refine lv_aload_n hx hb dX6_workOut_81 rfl (lv_at hl 2 rfl) ?_
            refine va_get (D := D) (ci := 6) (v := .int t_rank) (C := RX6) (T := TX6) (N := 13) hx hb hts w2 hown hK hP 0 rfl rfl 11 (by decide) w1 (fun _ h9 => h9) rfl dX6_workOut_82 ?_
            refine lv_imul hx hb dX6_workOut_85 ?_
            refine lv_iload hx hb dX6_workOut_86 (lv_at hl 4 rfl) ?_
            refine lv_iadd hx hb dX6_workOut_88 ?_
            obtain ⟨g_10, hM⟩ := on_gdE hM
            refine va_lald hx hb hK hP 2 1 rfl rfl (on_ixE g_10) dX6_workOut_89 ?_
            refine lv_topl (fun v1_11 ev1_11 => ?_)
            have hM := on_letE ev1_11 hM
            refine lv_lstore_n (lv' := [(1, .long v1_11), (3, .int v3_7), (5, .int q_3), (0, .ref h_t), (4, .int v4)]) hx hb dX6_workOut_90 rfl hl (by decide) rfl (fun ls hl => ?_)
            refine lv_aload_n hx hb dX6_workOut_91 rfl (lv_at hl 3 rfl) ?_
            refine lv_dup hx hb dX6_workOut_92 rfl ?_
            refine va_get (D := D) (ci := 6) (v := .int t_rank) (C := RX6) (T := TX6) (N := 13) hx hb hts w2 hown hK hP 0 rfl rfl 11 (by decide) w1 (fun _ h9 => h9) rfl dX6_workOut_93 ?_
            refine lv_iconst (v := 1) hx hb dX6_workOut_96 (by decide) ?_
            refine lv_iadd hx hb dX6_workOut_97 ?_
            refine lv_topi (fun t_rank_12 et_rank_12 => ?_)
            have hM := on_letE et_rank_12 hM
            refine va_put (D := D) (ci := 6) (v := .int t_rank_12) (ty := .int) (C := RX6) (T := TX6) (N := 13) hx hb hts w2 tyX6 tyX6_ok nmX6 hown hK hP hD hS 0 rfl rfl 11 (by decide) w1 (fun _ h9 => h9) rfl (by decide +kernel) rfl rfl (Nat.le_of_ble_eq_true rfl) dX6_workOut_98 (fun H locs hP hD hS => ?_)
            have hP : va_P D vwCl [(h_t, .inr (6, [.ref h_t_state, .ref h_t_images, .ref h_t_isKept, .ref h_t_pad, .int t_said, .int t_leastSize, .int t_leastSet, .int t_found, .ref h_t_row, .ref h_t_isUsed, .ref h_t_table, .int t_rank_12, .long t_determinant])), (h_t_state, .inl (cI, 4, .inl t_state)), (h_t_table, .inl (cJ, 49, .inr (.inl q_9)))] H := hP
            have hD : va_D A [(h_t, .inr (6, [.ref h_t_state, .ref h_t_images, .ref h_t_isKept, .ref h_t_pad, .int t_said, .int t_leastSize, .int t_leastSet, .int t_found, .ref h_t_row, .ref h_t_isUsed, .ref h_t_table, .int t_rank_12, .long t_determinant])), (h_t_state, .inl (cI, 4, .inl t_state)), (h_t_table, .inl (cJ, 49, .inr (.inl q_9)))] := hD
            obtain ⟨v4_13, ev4_13⟩ : ∃ z : Int32, z = v4 + 1 := ⟨_, rfl⟩
            have hM := on_letE ev4_13 hM
            refine lv_iinc (v := v4_13) (lv' := [(4, .int v4_13), (1, .long v1_11), (3, .int v3_7), (5, .int q_3), (0, .ref h_t)]) hx hb dX6_workOut_101 hl (k := 4) rfl (by rw [ev4_13]; rfl) (by decide) rfl (fun ls hl => ?_)
            refine lv_goto (tgt := 12) hx hb dX6_workOut_104 (by decide) ?_
            have hk := on_nxL hM hk
            exact ih v1_11 v3_7 v4_13 t_rank_12 q_9 _ hk K1 _ _ hP hD hS ls (lv_sub hl [4, 1, 2, 0] rfl)
          · have hM := on_pos c_6 hM
            refine lv_iload_n hx hb dX6_workOut_47 rfl (lv_at hl 3 rfl) ?_
            refine lv_goto (tgt := 53) hx hb dX6_workOut_48 (by decide) ?_
            refine lv_istore_n (lv' := [(3, .int v3), (5, .int q_3), (0, .ref h_t), (1, .long v1), (4, .int v4)]) hx hb dX6_workOut_53 rfl hl (by decide) rfl (fun ls hl => ?_)
            refine lv_aload_n hx hb dX6_workOut_54 rfl (lv_at hl 2 rfl) ?_
            refine lv_aload_n hx hb dX6_workOut_55 rfl (lv_at hl 2 rfl) ?_
            refine va_get (D := D) (ci := 6) (v := .int t_rank) (C := RX6) (T := TX6) (N := 13) hx hb hts w2 hown hK hP 0 rfl rfl 11 (by decide) w1 (fun _ h9 => h9) rfl dX6_workOut_56 ?_
            refine lv_iload hx hb dX6_workOut_59 (lv_at hl 1 rfl) ?_
            obtain ⟨q_14, hq_14, hM⟩ := on_bind hM
            refine on_callV (rest := []) (As := [.int t_rank, .int q_3]) (st1 := []) (C := RX6) (ci := 6) (q0 := 0) (wc := [(h_t, .inr (6, [.ref h_t_state, .ref h_t_images, .ref h_t_isKept, .ref h_t_pad, .int t_said, .int t_leastSize, .int t_leastSet, .int t_found, .ref h_t_row, .ref h_t_isUsed, .ref h_t_table, .int t_rank, .long t_determinant])), (h_t_state, .inl (cI, 4, .inl t_state)), (h_t_table, .inl (cJ, 49, .inr (.inl t_table)))]) (wr := []) (wc' := [(h_t, .inr (6, [.ref h_t_state, .ref h_t_images, .ref h_t_isKept, .ref h_t_pad, .int t_said, .int t_leastSize, .int t_leastSet, .int t_found, .ref h_t_row, .ref h_t_isUsed, .ref h_t_table, .int t_rank, .long t_determinant])), (h_t_state, .inl (cI, 4, .inl t_state)), (h_t_table, .inl (cJ, 49, .inr (.inl q_14)))]) (wf := [(h_t, .inr (6, [.ref h_t_state, .ref h_t_images, .ref h_t_isKept, .ref h_t_pad, .int t_said, .int t_leastSize, .int t_leastSet, .int t_found, .ref h_t_row, .ref h_t_isUsed, .ref h_t_table, .int t_rank, .long t_determinant])), (h_t_state, .inl (cI, 4, .inl t_state)), (h_t_table, .inl (cJ, 49, .inr (.inl q_14)))]) (rt := none) ⟨hx, hb, hml, hown, hts⟩ (k_X6_swapRows h_t h_t_state h_t_images h_t_isKept h_t_pad h_t_row h_t_isUsed h_t_table t_said t_leastSize t_leastSet t_found t_rank t_determinant t_state t_table t_rank q_3 q_14 hq_14) (cwV 2 hts gX6_workOut_X6_swapRows rfl rfl rfl ⟨rfl, hdX6_swapRows⟩ ⟨(Nat.le_of_ble_eq_true rfl), (Nat.le_of_ble_eq_true rfl)⟩) hK hN hP hD hS hA [0, 1, 2] [] [0, 1, 2] rfl rfl rfl rfl (by decide) rfl rfl rfl rfl rfl rfl hl.1 rfl (Nat.le_of_ble_eq_true rfl) rfl dX6_workOut_61 ⟨Nat.zero_le _, Nat.zero_le _⟩ (fun H locs hP hD hS => ?_)
            refine lv_aload_n hx hb dX6_workOut_64 rfl (lv_at hl 2 rfl) ?_
            refine lv_aload_n hx hb dX6_workOut_65 rfl (lv_at hl 2 rfl) ?_
            refine va_get (D := D) (ci := 6) (v := .int t_rank) (C := RX6) (T := TX6) (N := 13) hx hb hts w2 hown hK hP 0 rfl rfl 11 (by decide) w1 (fun _ h9 => h9) rfl dX6_workOut_66 ?_
            refine lv_iload hx hb dX6_workOut_69 (lv_at hl 4 rfl) ?_
            refine lv_lload_n hx hb dX6_workOut_71 rfl (lv_at hl 3 rfl) ?_
            obtain ⟨q_15, hq_15, hM⟩ := on_bind hM
            refine on_callV (rest := []) (As := [.int t_rank, .int v4, .long v1]) (st1 := []) (C := RX6) (ci := 6) (q0 := 0) (wc := [(h_t, .inr (6, [.ref h_t_state, .ref h_t_images, .ref h_t_isKept, .ref h_t_pad, .int t_said, .int t_leastSize, .int t_leastSet, .int t_found, .ref h_t_row, .ref h_t_isUsed, .ref h_t_table, .int t_rank, .long t_determinant])), (h_t_state, .inl (cI, 4, .inl t_state)), (h_t_table, .inl (cJ, 49, .inr (.inl q_14)))]) (wr := []) (wc' := [(h_t, .inr (6, [.ref h_t_state, .ref h_t_images, .ref h_t_isKept, .ref h_t_pad, .int t_said, .int t_leastSize, .int t_leastSet, .int t_found, .ref h_t_row, .ref h_t_isUsed, .ref h_t_table, .int t_rank, .long t_determinant])), (h_t_state, .inl (cI, 4, .inl t_state)), (h_t_table, .inl (cJ, 49, .inr (.inl q_15)))]) (wf := [(h_t, .inr (6, [.ref h_t_state, .ref h_t_images, .ref h_t_isKept, .ref h_t_pad, .int t_said, .int t_leastSize, .int t_leastSet, .int t_found, .ref h_t_row, .ref h_t_isUsed, .ref h_t_table, .int t_rank, .long t_determinant])), (h_t_state, .inl (cI, 4, .inl t_state)), (h_t_table, .inl (cJ, 49, .inr (.inl q_15)))]) (rt := none) ⟨hx, hb, hml, hown, hts⟩ (k_X6_clearBelow h_t h_t_state h_t_images h_t_isKept h_t_pad h_t_row h_t_isUsed h_t_table t_said t_leastSize t_leastSet t_found t_rank t_determinant t_state q_14 t_rank v4 v1 q_15 hq_15) (cwV 3 hts gX6_workOut_X6_clearBelow rfl rfl rfl ⟨rfl, hdX6_clearBelow⟩ ⟨(Nat.le_of_ble_eq_true rfl), (Nat.le_of_ble_eq_true rfl)⟩) hK hN hP hD hS hA [0, 1, 2] [] [0, 1, 2] rfl rfl rfl rfl (by decide) rfl rfl rfl rfl rfl rfl hl.1 rfl (Nat.le_of_ble_eq_true rfl) rfl dX6_workOut_72 ⟨Nat.zero_le _, Nat.zero_le _⟩ (fun H locs hP hD hS => ?_)
            refine lv_aload_n hx hb dX6_workOut_75 rfl (lv_at hl 2 rfl) ?_
            refine va_get (D := D) (ci := 6) (v := .ref h_t_table) (C := RX6) (T := TX6) (N := 13) hx hb hts w2 hown hK hP 0 rfl rfl 10 (by decide) w3 (fun _ h9 => h9) rfl dX6_workOut_76 ?_
            refine lv_bipush (v := 7) hx hb dX6_workOut_79 (by decide) ?_
            refine lv_aload_n hx hb dX6_workOut_81 rfl (lv_at hl 2 rfl) ?_
            refine va_get (D := D) (ci := 6) (v := .int t_rank) (C := RX6) (T := TX6) (N := 13) hx hb hts w2 hown hK hP 0 rfl rfl 11 (by decide) w1 (fun _ h9 => h9) rfl dX6_workOut_82 ?_
            refine lv_imul hx hb dX6_workOut_85 ?_
            refine lv_iload hx hb dX6_workOut_86 (lv_at hl 4 rfl) ?_
            refine lv_iadd hx hb dX6_workOut_88 ?_
            obtain ⟨g_16, hM⟩ := on_gdE hM
            refine va_lald hx hb hK hP 2 1 rfl rfl (on_ixE g_16) dX6_workOut_89 ?_
            refine lv_topl (fun v1_17 ev1_17 => ?_)
            have hM := on_letE ev1_17 hM
            refine lv_lstore_n (lv' := [(1, .long v1_17), (3, .int v3), (5, .int q_3), (0, .ref h_t), (4, .int v4)]) hx hb dX6_workOut_90 rfl hl (by decide) rfl (fun ls hl => ?_)
            refine lv_aload_n hx hb dX6_workOut_91 rfl (lv_at hl 3 rfl) ?_
            refine lv_dup hx hb dX6_workOut_92 rfl ?_
            refine va_get (D := D) (ci := 6) (v := .int t_rank) (C := RX6) (T := TX6) (N := 13) hx hb hts w2 hown hK hP 0 rfl rfl 11 (by decide) w1 (fun _ h9 => h9) rfl dX6_workOut_93 ?_
            refine lv_iconst (v := 1) hx hb dX6_workOut_96 (by decide) ?_
            refine lv_iadd hx hb dX6_workOut_97 ?_
            refine lv_topi (fun t_rank_18 et_rank_18 => ?_)
            have hM := on_letE et_rank_18 hM
            refine va_put (D := D) (ci := 6) (v := .int t_rank_18) (ty := .int) (C := RX6) (T := TX6) (N := 13) hx hb hts w2 tyX6 tyX6_ok nmX6 hown hK hP hD hS 0 rfl rfl 11 (by decide) w1 (fun _ h9 => h9) rfl (by decide +kernel) rfl rfl (Nat.le_of_ble_eq_true rfl) dX6_workOut_98 (fun H locs hP hD hS => ?_)
            have hP : va_P D vwCl [(h_t, .inr (6, [.ref h_t_state, .ref h_t_images, .ref h_t_isKept, .ref h_t_pad, .int t_said, .int t_leastSize, .int t_leastSet, .int t_found, .ref h_t_row, .ref h_t_isUsed, .ref h_t_table, .int t_rank_18, .long t_determinant])), (h_t_state, .inl (cI, 4, .inl t_state)), (h_t_table, .inl (cJ, 49, .inr (.inl q_15)))] H := hP
            have hD : va_D A [(h_t, .inr (6, [.ref h_t_state, .ref h_t_images, .ref h_t_isKept, .ref h_t_pad, .int t_said, .int t_leastSize, .int t_leastSet, .int t_found, .ref h_t_row, .ref h_t_isUsed, .ref h_t_table, .int t_rank_18, .long t_determinant])), (h_t_state, .inl (cI, 4, .inl t_state)), (h_t_table, .inl (cJ, 49, .inr (.inl q_15)))] := hD
            obtain ⟨v4_19, ev4_19⟩ : ∃ z : Int32, z = v4 + 1 := ⟨_, rfl⟩
            have hM := on_letE ev4_19 hM
            refine lv_iinc (v := v4_19) (lv' := [(4, .int v4_19), (1, .long v1_17), (3, .int v3), (5, .int q_3), (0, .ref h_t)]) hx hb dX6_workOut_101 hl (k := 4) rfl (by rw [ev4_19]; rfl) (by decide) rfl (fun ls hl => ?_)
            refine lv_goto (tgt := 12) hx hb dX6_workOut_104 (by decide) ?_
            have hk := on_nxL hM hk
            exact ih v1_17 v3 v4_19 t_rank_18 q_15 _ hk K1 _ _ hP hD hS ls (lv_sub hl [4, 1, 2, 0] rfl)
  refine lv_aload_n hx hb dX6_workOut_0 rfl (lv_at hl 0 rfl) ?_
  refine lv_iconst (v := 0) hx hb dX6_workOut_1 (by decide) ?_
  refine va_put (D := D) (ci := 6) (v := .int (0 : Int32)) (ty := .int) (C := RX6) (T := TX6) (N := 13) hx hb hts w2 tyX6 tyX6_ok nmX6 hown hK hP hD hS 0 rfl rfl 11 (by decide) w1 (fun _ h9 => h9) rfl (by decide +kernel) rfl rfl (Nat.le_of_ble_eq_true rfl) dX6_workOut_2 (fun H locs hP hD hS => ?_)
  have hP : va_P D vwCl [(h_t, .inr (6, [.ref h_t_state, .ref h_t_images, .ref h_t_isKept, .ref h_t_pad, .int t_said, .int t_leastSize, .int t_leastSet, .int t_found, .ref h_t_row, .ref h_t_isUsed, .ref h_t_table, .int (0 : Int32), .long t_determinant])), (h_t_state, .inl (cI, 4, .inl t_state)), (h_t_table, .inl (cJ, 49, .inr (.inl t_table)))] H := hP
  have hD : va_D A [(h_t, .inr (6, [.ref h_t_state, .ref h_t_images, .ref h_t_isKept, .ref h_t_pad, .int t_said, .int t_leastSize, .int t_leastSet, .int t_found, .ref h_t_row, .ref h_t_isUsed, .ref h_t_table, .int (0 : Int32), .long t_determinant])), (h_t_state, .inl (cI, 4, .inl t_state)), (h_t_table, .inl (cJ, 49, .inr (.inl t_table)))] := hD
  refine lv_lconst (v := 1) hx hb dX6_workOut_5 (by decide) ?_
  refine lv_lstore_n (lv' := [(1, .long (1 : Int64)), (0, .ref h_t)]) hx hb dX6_workOut_6 rfl hl (by decide) rfl (fun ls hl => ?_)
  refine lv_iconst (v := 1) hx hb dX6_workOut_7 (by decide) ?_
  refine lv_istore_n (lv' := [(3, .int (1 : Int32)), (1, .long (1 : Int64)), (0, .ref h_t)]) hx hb dX6_workOut_8 rfl hl (by decide) rfl (fun ls hl => ?_)
  refine lv_iconst (v := 0) hx hb dX6_workOut_9 (by decide) ?_
  refine lv_istore (lv' := [(4, .int (0 : Int32)), (3, .int (1 : Int32)), (1, .long (1 : Int64)), (0, .ref h_t)]) hx hb dX6_workOut_10 hl (by decide) rfl (fun ls hl => ?_)
  obtain ⟨q_20, hq_20, hM⟩ := on_bind hM
  refine lp_12 t_determinant on_F (1 : Int64) (1 : Int32) (0 : Int32) (0 : Int32) t_table q_20 hq_20 (fun H locs hP hD hS ls hl => ?_) H locs hP hD hS ls (lv_sub hl [3, 2, 1, 0] rfl)
  refine lv_aload_n hx hb dX6_workOut_107 rfl (lv_at hl 0 rfl) ?_
  refine lv_aload_n hx hb dX6_workOut_108 rfl (lv_at hl 0 rfl) ?_
  refine va_get (D := D) (ci := 6) (v := .int q_20.2.2.1) (C := RX6) (T := TX6) (N := 13) hx hb hts w2 hown hK hP 0 rfl rfl 11 (by decide) w1 (fun _ h9 => h9) rfl dX6_workOut_109 ?_
  refine lv_aload_n hx hb dX6_workOut_112 rfl (lv_at hl 0 rfl) ?_
  obtain ⟨q_21, hq_21, hM⟩ := on_bind hM
  refine on_callV (rest := [.int q_20.2.2.1, .ref h_t]) (As := []) (st1 := [.int q_21, .int q_20.2.2.1, .ref h_t]) (C := RX6) (ci := 6) (q0 := 0) (wc := [(h_t, .inr (6, [.ref h_t_state, .ref h_t_images, .ref h_t_isKept, .ref h_t_pad, .int t_said, .int t_leastSize, .int t_leastSet, .int t_found, .ref h_t_row, .ref h_t_isUsed, .ref h_t_table, .int q_20.2.2.1, .long t_determinant])), (h_t_state, .inl (cI, 4, .inl t_state))]) (wr := [(h_t_table, .inl (cJ, 49, .inr (.inl q_20.2.2.2)))]) (wc' := [(h_t, .inr (6, [.ref h_t_state, .ref h_t_images, .ref h_t_isKept, .ref h_t_pad, .int t_said, .int t_leastSize, .int t_leastSet, .int t_found, .ref h_t_row, .ref h_t_isUsed, .ref h_t_table, .int q_20.2.2.1, .long t_determinant])), (h_t_state, .inl (cI, 4, .inl t_state))]) (wf := [(h_t, .inr (6, [.ref h_t_state, .ref h_t_images, .ref h_t_isKept, .ref h_t_pad, .int t_said, .int t_leastSize, .int t_leastSet, .int t_found, .ref h_t_row, .ref h_t_isUsed, .ref h_t_table, .int q_20.2.2.1, .long t_determinant])), (h_t_state, .inl (cI, 4, .inl t_state)), (h_t_table, .inl (cJ, 49, .inr (.inl q_20.2.2.2)))]) (rt := (some (.int q_21))) ⟨hx, hb, hml, hown, hts⟩ (k_X6_many h_t h_t_state h_t_images h_t_isKept h_t_pad h_t_row h_t_isUsed h_t_table t_said t_leastSize t_leastSet t_found q_20.2.2.1 t_determinant t_state q_21 hq_21) (cwV 0 hts gX6_workOut_X6_many rfl rfl rfl ⟨rfl, hdX6_many⟩ ⟨(Nat.le_of_ble_eq_true rfl), (Nat.le_of_ble_eq_true rfl)⟩) hK hN hP hD hS hA [0, 1] [2] [1, 2, 0] rfl rfl rfl rfl (by decide) rfl rfl rfl rfl rfl rfl hl.1 rfl (Nat.le_of_ble_eq_true rfl) rfl dX6_workOut_113 ⟨Nat.zero_le _, Nat.zero_le _⟩ (fun H locs hP hD hS => ?_)
  refine lv_icmp_ne (tgt := 126) hx hb dX6_workOut_116 (by decide) (fun c_22 => ?_) (fun c_22 => ?_)
  · have hM := on_neg c_22 hM
    refine lv_lconst (v := 0) hx hb dX6_workOut_126 (by decide) ?_
    refine va_put (D := D) (ci := 6) (v := .long (0 : Int64)) (ty := .long) (C := RX6) (T := TX6) (N := 13) hx hb hts w2 tyX6 tyX6_ok nmX6 hown hK hP hD hS 0 rfl rfl 12 (by decide) w4 (fun _ h9 => h9) rfl (by decide +kernel) rfl rfl (Nat.le_of_ble_eq_true rfl) dX6_workOut_127 (fun H locs hP hD hS => ?_)
    have hP : va_P D vwCl [(h_t, .inr (6, [.ref h_t_state, .ref h_t_images, .ref h_t_isKept, .ref h_t_pad, .int t_said, .int t_leastSize, .int t_leastSet, .int t_found, .ref h_t_row, .ref h_t_isUsed, .ref h_t_table, .int q_20.2.2.1, .long (0 : Int64)])), (h_t_state, .inl (cI, 4, .inl t_state)), (h_t_table, .inl (cJ, 49, .inr (.inl q_20.2.2.2)))] H := hP
    have hD : va_D A [(h_t, .inr (6, [.ref h_t_state, .ref h_t_images, .ref h_t_isKept, .ref h_t_pad, .int t_said, .int t_leastSize, .int t_leastSet, .int t_found, .ref h_t_row, .ref h_t_isUsed, .ref h_t_table, .int q_20.2.2.1, .long (0 : Int64)])), (h_t_state, .inl (cI, 4, .inl t_state)), (h_t_table, .inl (cJ, 49, .inr (.inl q_20.2.2.2)))] := hD
    have hM := Option.some.inj hM
    subst hM
    rw [← hQ]
    exact on_vret hx hb hr hlk hP hD hS dX6_workOut_130
  · have hM := on_pos c_22 hM
    refine lv_iload_n hx hb dX6_workOut_119 rfl (lv_at hl 2 rfl) ?_
    refine lv_i2l hx hb dX6_workOut_120 rfl ?_
    refine lv_lload_n hx hb dX6_workOut_121 rfl (lv_at hl 1 rfl) ?_
    refine lv_lmul hx hb dX6_workOut_122 ?_
    refine lv_goto (tgt := 127) hx hb dX6_workOut_123 (by decide) ?_
    refine lv_topl (fun t_determinant_23 et_determinant_23 => ?_)
    have hM := on_letE et_determinant_23 hM
    refine va_put (D := D) (ci := 6) (v := .long t_determinant_23) (ty := .long) (C := RX6) (T := TX6) (N := 13) hx hb hts w2 tyX6 tyX6_ok nmX6 hown hK hP hD hS 0 rfl rfl 12 (by decide) w4 (fun _ h9 => h9) rfl (by decide +kernel) rfl rfl (Nat.le_of_ble_eq_true rfl) dX6_workOut_127 (fun H locs hP hD hS => ?_)
    have hP : va_P D vwCl [(h_t, .inr (6, [.ref h_t_state, .ref h_t_images, .ref h_t_isKept, .ref h_t_pad, .int t_said, .int t_leastSize, .int t_leastSet, .int t_found, .ref h_t_row, .ref h_t_isUsed, .ref h_t_table, .int q_20.2.2.1, .long t_determinant_23])), (h_t_state, .inl (cI, 4, .inl t_state)), (h_t_table, .inl (cJ, 49, .inr (.inl q_20.2.2.2)))] H := hP
    have hD : va_D A [(h_t, .inr (6, [.ref h_t_state, .ref h_t_images, .ref h_t_isKept, .ref h_t_pad, .int t_said, .int t_leastSize, .int t_leastSet, .int t_found, .ref h_t_row, .ref h_t_isUsed, .ref h_t_table, .int q_20.2.2.1, .long t_determinant_23])), (h_t_state, .inl (cI, 4, .inl t_state)), (h_t_table, .inl (cJ, 49, .inr (.inl q_20.2.2.2)))] := hD
    have hM := Option.some.inj hM
    subst hM
    rw [← hQ]
    exact on_vret hx hb hr hlk hP hD hS dX6_workOut_130
