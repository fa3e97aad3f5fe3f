abbrev rm_X0_switchBy : Room := { frames := 1, cells := 0, slots := 0, locals := 20 }
set_option maxHeartbeats 4000000 in
set_option maxRecDepth 100000 in
theorem k_X0_switchBy {l : Launch} {D : va_G} {cI cJ cZ cS cA : ClassId} (h_t : Nat) (h_t_rows : Nat) (t_many : Int32) (t_rows : Nat → Int32) (v1 : Int32) (out : (Nat → Int32)) (hM : M_X0_switchBy v1 t_many t_rows = some out) : on_Con l yX0_switchBy wsX0_switchBy rm_X0_switchBy [.ref h_t, .int v1] D (on_T cI cJ cZ cS cA) [(h_t, .inr (0, [.int t_many, .ref h_t_rows])), (h_t_rows, .inl (cI, 7, .inl t_rows))] none [(h_t, .inr (0, [.int t_many, .ref h_t_rows])), (h_t_rows, .inl (cI, 7, .inl out))] := by
  unfold M_X0_switchBy at hM
  refine on_enter (cc := cX0_switchBy) (nL := 4) (rt := none) (own := RX0) (by decide +kernel) rfl rfl (Nat.le_of_ble_eq_true rfl) ?_
  intro p e s m below meth c A ls hx hb hml hr hlk hts hown hA hK hN H locs hP hD hS hl
  have hl : lv_has ls 4 [(0, .ref h_t), (1, .int v1)] := hl
  generalize hQ : MQ below (on_Q D none [(h_t, .inr (0, [.int t_many, .ref h_t_rows])), (h_t_rows, .inl (cI, 7, .inl out))] A) _ s 0 0 A = Q
  generalize hAr : List.toArray ([.ref h_t, .int v1] : List Value) = args at hts hQ ⊢
  have w1 := hts (.fieldLink RX0 9 "OddNets$Net" "many" "I") (by decide +kernel)
  have w2 : ∀ w ∈ wsX00, w ∈ wsX0_switchBy := by decide +kernel
  have w3 := hts (.fieldLink RX0 15 "OddNets$Net" "rows" "[I") (by decide +kernel)
  have lp_11 : ∀ (v1 : Int32) (v2 : Int32), ∀ (n : Nat) (v3 : Int32) (t_rows : Nat → Int32) (x : (Nat → Int32)), on_loop (fun (s : Int32 × (Nat → Int32)) => B_X0_switchBy_11 v1 v2 t_many s.1 s.2) n (v3, t_rows) = some x → (∀ (H : Heap) (locs : List Loc), va_P D vwCl [(h_t, .inr (0, [.int t_many, .ref h_t_rows])), (h_t_rows, .inl (cI, 7, .inl x))] H → va_D A [(h_t, .inr (0, [.int t_many, .ref h_t_rows])), (h_t_rows, .inl (cI, 7, .inl x))] → va_S A s.heap H locs → ∀ ls : Array Slot, lv_has ls 4 [] → W p l e rm_X0_switchBy s m args below meth c H locs 0 0 Q (F0 m 48 ls [])) → ∀ (H : Heap) (locs : List Loc), va_P D vwCl [(h_t, .inr (0, [.int t_many, .ref h_t_rows])), (h_t_rows, .inl (cI, 7, .inl t_rows))] H → va_D A [(h_t, .inr (0, [.int t_many, .ref h_t_rows])), (h_t_rows, .inl (cI, 7, .inl t_rows))] → va_S A s.heap H locs → ∀ ls : Array Slot, lv_has ls 4 [(0, .ref h_t), (1, .int v1), (2, .int v2), (3, .int v3)] → W p l e rm_X0_switchBy s m args below meth c H locs 0 0 Q (F0 m 11 ls []) := by
    intro v1 v2
    intro n
    induction n with
    | zero =>
      intro v3 t_rows x hL
      exact (on_loop0 hL).elim
    | succ n ih =>
      intro v3 t_rows x hL K1 H locs hP hD hS ls hl
      obtain ⟨y, hM, hk⟩ := on_loopE hL
      have hM : B_X0_switchBy_11 v1 v2 t_many v3 t_rows = some y := hM
      unfold B_X0_switchBy_11 at hM
      refine lv_iload_n hx hb dX0_switchBy_11 rfl (lv_at hl 3 rfl) ?_
      refine lv_aload_n hx hb dX0_switchBy_12 rfl (lv_at hl 0 rfl) ?_
      refine va_get (D := D) (ci := 0) (v := .int t_many) (C := RX0) (T := TX0) (N := 2) hx hb hts w2 hown hK hP 0 rfl rfl 0 (by decide) w1 (fun _ h9 => h9) rfl dX0_switchBy_13 ?_
      refine lv_icmp_ge (tgt := 48) hx hb dX0_switchBy_16 (by decide) (fun c_3 => ?_) (fun c_3 => ?_)
      · have hM := on_pos c_3 hM
        have hk := on_nxR hM hk
        subst hk
        exact K1 _ _ hP hD hS ls (lv_sub hl [] rfl)
      · have hM := on_neg c_3 hM
        refine lv_aload_n hx hb dX0_switchBy_19 rfl (lv_at hl 0 rfl) ?_
        refine va_get (D := D) (ci := 0) (v := .ref h_t_rows) (C := RX0) (T := TX0) (N := 2) hx hb hts w2 hown hK hP 0 rfl rfl 1 (by decide) w3 (fun _ h9 => h9) rfl dX0_switchBy_20 ?_
        refine lv_iload_n hx hb dX0_switchBy_23 rfl (lv_at hl 3 rfl) ?_
        refine lv_dup2_11 hx hb dX0_switchBy_24 rfl rfl ?_
        obtain ⟨g_4, hM⟩ := on_gdE hM
        refine va_iald hx hb hK hP 1 0 rfl rfl (on_ixE g_4) dX0_switchBy_25 ?_
        refine lv_iload_n hx hb dX0_switchBy_26 rfl (lv_at hl 1 rfl) ?_
        refine lv_iload_n hx hb dX0_switchBy_27 rfl (lv_at hl 3 rfl) ?_
        refine lv_ishr hx hb dX0_switchBy_28 ?_
        refine lv_iconst (v := 1) hx hb dX0_switchBy_29 (by decide) ?_
        refine lv_iand hx hb dX0_switchBy_30 ?_
        refine lv_iconst (v := 1) hx hb dX0_switchBy_31 (by decide) ?_
        refine lv_icmp_ne (tgt := 39) hx hb dX0_switchBy_32 (by decide) (fun c_5 => ?_) (fun c_5 => ?_)
        · have hM := on_neg c_5 hM
          refine lv_iload_n hx hb dX0_switchBy_39 rfl (lv_at hl 1 rfl) ?_
          refine lv_ixor hx hb dX0_switchBy_40 ?_
          obtain ⟨g_6, hM⟩ := on_gdE hM
          refine va_iast hx hb hK hP hD hS 1 0 rfl rfl (on_ixE g_6) dX0_switchBy_41 (fun H locs hP hD hS => ?_)
          have hP : va_P D vwCl [(h_t, .inr (0, [.int t_many, .ref h_t_rows])), (h_t_rows, .inl (cI, 7, .inl (upd t_rows (Int32.toNatClampNeg v3) ((t_rows (Int32.toNatClampNeg v3)) ^^^ v1))))] H := hP
          have hD : va_D A [(h_t, .inr (0, [.int t_many, .ref h_t_rows])), (h_t_rows, .inl (cI, 7, .inl (upd t_rows (Int32.toNatClampNeg v3) ((t_rows (Int32.toNatClampNeg v3)) ^^^ v1))))] := hD
          obtain ⟨v3_7, ev3_7⟩ : ∃ z : Int32, z = v3 + 1 := ⟨_, rfl⟩
          have hM := on_letE ev3_7 hM
          refine lv_iinc (v := v3_7) (lv' := [(3, .int v3_7), (0, .ref h_t), (1, .int v1), (2, .int v2)]) hx hb dX0_switchBy_42 hl (k := 3) rfl (by rw [ev3_7]; rfl) (by decide) rfl (fun ls hl => ?_)
          refine lv_goto (tgt := 11) hx hb dX0_switchBy_45 (by decide) ?_
          have hk := on_nxL hM hk
          exact ih v3_7 (upd t_rows (Int32.toNatClampNeg v3) ((t_rows (Int32.toNatClampNeg v3)) ^^^ v1)) _ hk K1 _ _ hP hD hS ls (lv_sub hl [1, 2, 3, 0] rfl)
        · have hM := on_pos c_5 hM
          refine lv_iload_n hx hb dX0_switchBy_35 rfl (lv_at hl 2 rfl) ?_
          refine lv_goto (tgt := 40) hx hb dX0_switchBy_36 (by decide) ?_
          refine lv_ixor hx hb dX0_switchBy_40 ?_
          obtain ⟨g_8, hM⟩ := on_gdE hM
          refine va_iast hx hb hK hP hD hS 1 0 rfl rfl (on_ixE g_8) dX0_switchBy_41 (fun H locs hP hD hS => ?_)
          have hP : va_P D vwCl [(h_t, .inr (0, [.int t_many, .ref h_t_rows])), (h_t_rows, .inl (cI, 7, .inl (upd t_rows (Int32.toNatClampNeg v3) ((t_rows (Int32.toNatClampNeg v3)) ^^^ v2))))] H := hP
          have hD : va_D A [(h_t, .inr (0, [.int t_many, .ref h_t_rows])), (h_t_rows, .inl (cI, 7, .inl (upd t_rows (Int32.toNatClampNeg v3) ((t_rows (Int32.toNatClampNeg v3)) ^^^ v2))))] := hD
          obtain ⟨v3_9, ev3_9⟩ : ∃ z : Int32, z = v3 + 1 := ⟨_, rfl⟩
          have hM := on_letE ev3_9 hM
          refine lv_iinc (v := v3_9) (lv' := [(3, .int v3_9), (0, .ref h_t), (1, .int v1), (2, .int v2)]) hx hb dX0_switchBy_42 hl (k := 3) rfl (by rw [ev3_9]; rfl) (by decide) rfl (fun ls hl => ?_)
          refine lv_goto (tgt := 11) hx hb dX0_switchBy_45 (by decide) ?_
          have hk := on_nxL hM hk
          exact ih v3_9 (upd t_rows (Int32.toNatClampNeg v3) ((t_rows (Int32.toNatClampNeg v3)) ^^^ v2)) _ hk K1 _ _ hP hD hS ls (lv_sub hl [1, 2, 3, 0] rfl)
  refine lv_aload_n hx hb dX0_switchBy_0 rfl (lv_at hl 0 rfl) ?_
  obtain ⟨q_1, hq_1, hM⟩ := on_bind hM
  refine on_callV (rest := []) (As := []) (st1 := [.int q_1]) (C := RX0) (ci := 0) (q0 := 0) (wc := [(h_t, .inr (0, [.int t_many, .ref h_t_rows]))]) (wr := [(h_t_rows, .inl (cI, 7, .inl t_rows))]) (wc' := [(h_t, .inr (0, [.int t_many, .ref h_t_rows]))]) (wf := [(h_t, .inr (0, [.int t_many, .ref h_t_rows])), (h_t_rows, .inl (cI, 7, .inl t_rows))]) (rt := (some (.int q_1))) ⟨hx, hb, hml, hown, hts⟩ (k_X0_allNodes h_t h_t_rows t_many q_1 hq_1) (cwV 0 hts gX0_switchBy_X0_allNodes rfl rfl rfl ⟨rfl, hdX0_allNodes⟩ ⟨(Nat.le_of_ble_eq_true rfl), (Nat.le_of_ble_eq_true rfl)⟩) hK hN hP hD hS hA [0] [1] [1, 0] rfl rfl rfl rfl (by decide) rfl rfl rfl rfl rfl rfl hl.1 rfl (Nat.le_of_ble_eq_true rfl) rfl dX0_switchBy_1 ⟨Nat.zero_le _, Nat.zero_le _⟩ (fun H locs hP hD hS => ?_)
  refine lv_iload_n hx hb dX0_switchBy_4 rfl (lv_at hl 1 rfl) ?_
  refine lv_iconst (v := -1) hx hb dX0_switchBy_5 (by decide) ?_
  refine lv_ixor hx hb dX0_switchBy_6 ?_
  refine lv_iand hx hb dX0_switchBy_7 ?_
  refine lv_topi (fun v2_2 ev2_2 => ?_)
  have hM := on_letE ev2_2 hM
  refine lv_istore_n (lv' := [(2, .int v2_2), (0, .ref h_t), (1, .int v1)]) hx hb dX0_switchBy_8 rfl hl (by decide) rfl (fun ls hl => ?_)
  refine lv_iconst (v := 0) hx hb dX0_switchBy_9 (by decide) ?_
  refine lv_istore_n (lv' := [(3, .int (0 : Int32)), (2, .int v2_2), (0, .ref h_t), (1, .int v1)]) hx hb dX0_switchBy_10 rfl hl (by decide) rfl (fun ls hl => ?_)
  obtain ⟨q_10, hq_10, hM⟩ := on_bind hM
  refine lp_11 v1 v2_2 on_F (0 : Int32) t_rows q_10 hq_10 (fun H locs hP hD hS ls hl => ?_) H locs hP hD hS ls (lv_sub hl [2, 3, 1, 0] rfl)
  have hM := Option.some.inj hM
  subst hM
  rw [← hQ]
  exact on_vret hx hb hr hlk hP hD hS dX0_switchBy_48
abbrev rm_X5_turn : Room := { frames := 3, cells := 0, slots := 0, locals := 69 }
set_option maxHeartbeats 4000000 in
set_option maxRecDepth 100000 in
theorem k_X5_turn {l : Launch} {D : va_G} {cI cJ cZ cS cA : ClassId} (h_t : Nat) (h_t_now : Nat) (h_t_images : Nat) (h_t_pad : Nat) (h_t_net : Nat) (h_t_second : Nat) (h_t_renumbering : Nat) (h_t_table : Nat) (h_t_marks : Nat) (h_t_now_numbers : Nat) (h_t_net_rows : Nat) (t_now_many : Int32) (t_now_numbers : Nat → Int32) (t_net_many : Int32) (t_net_rows : Nat → Int32) (v1 : Int32) (v2 : Int32) (v3 : Int32) (out : Int32 × (Nat → Int32) × Int32 × (Nat → Int32)) (hM : M_X5_turn v1 v2 v3 t_now_many t_now_numbers t_net_many t_net_rows = some out) : on_Con l yX5_turn wsX5_turn rm_X5_turn [.ref h_t, .int v1, .int v2, .int v3] D (on_T cI cJ cZ cS cA) [(h_t, .inr (5, [.ref h_t_now, .ref h_t_images, .ref h_t_pad, .ref h_t_net, .ref h_t_second, .ref h_t_renumbering, .ref h_t_table, .ref h_t_marks])), (h_t_now, .inr (3, [.int t_now_many, .ref h_t_now_numbers])), (h_t_now_numbers, .inl (cI, 3, .inl t_now_numbers)), (h_t_net, .inr (0, [.int t_net_many, .ref h_t_net_rows])), (h_t_net_rows, .inl (cI, 7, .inl t_net_rows))] (some (.int out.1)) [(h_t, .inr (5, [.ref h_t_now, .ref h_t_images, .ref h_t_pad, .ref h_t_net, .ref h_t_second, .ref h_t_renumbering, .ref h_t_table, .ref h_t_marks])), (h_t_now, .inr (3, [.int t_now_many, .ref h_t_now_numbers])), (h_t_now_numbers, .inl (cI, 3, .inl out.2.1)), (h_t_net, .inr (0, [.int out.2.2.1, .ref h_t_net_rows])), (h_t_net_rows, .inl (cI, 7, .inl out.2.2.2))] := by
  unfold M_X5_turn at hM
  refine on_enter (cc := cX5_turn) (nL := 4) (rt := (some .int)) (own := RX5) (by decide +kernel) rfl rfl (Nat.le_of_ble_eq_true rfl) ?_
  intro p e s m below meth c A ls hx hb hml hr hlk hts hown hA hK hN H locs hP hD hS hl
  have hl : lv_has ls 4 [(0, .ref h_t), (1, .int v1), (2, .int v2), (3, .int v3)] := hl
  generalize hQ : MQ below (on_Q D (some (.int out.1)) [(h_t, .inr (5, [.ref h_t_now, .ref h_t_images, .ref h_t_pad, .ref h_t_net, .ref h_t_second, .ref h_t_renumbering, .ref h_t_table, .ref h_t_marks])), (h_t_now, .inr (3, [.int t_now_many, .ref h_t_now_numbers])), (h_t_now_numbers, .inl (cI, 3, .inl out.2.1)), (h_t_net, .inr (0, [.int out.2.2.1, .ref h_t_net_rows])), (h_t_net_rows, .inl (cI, 7, .inl out.2.2.2))] A) _ s 0 0 A = Q
  generalize hAr : List.toArray ([.ref h_t, .int v1, .int v2, .int v3] : List Value) = args at hts hQ ⊢
  have w1 := hts (.fieldLink RX5 10 "OddNets" "now" "LOddNets$Shelf;") (by decide +kernel)
  have w2 : ∀ w ∈ wsX50, w ∈ wsX5_turn := by decide +kernel
  have w3 : ∀ w ∈ wsX30, w ∈ wsX5_turn := by decide +kernel
  have w4 := hts (.fieldLink RX5 30 "OddNets" "net" "LOddNets$Net;") (by decide +kernel)
  have w5 := hts (.initialized RX0) (by decide +kernel)
  have w6 := hts (.instanceMethod yX0_switchBy) (by decide +kernel)
  have w7 := hts (.selects RX0 yX0_switchBy yX0_switchBy) (by decide +kernel)
  have w8 := hts (.instanceMethod yX0_number) (by decide +kernel)
  have w9 := hts (.selects RX0 yX0_number yX0_number) (by decide +kernel)
  refine lv_iload_n hx hb dX5_turn_0 rfl (lv_at hl 1 rfl) ?_
  obtain ⟨q_1, hq_1, hM⟩ := on_bind hM
  refine on_callS0 (rest := []) (As := [.int v1]) (st1 := [.int q_1]) ⟨hx, hb, hml, hown, hts⟩ (k_X5_isSlot v1 q_1 hq_1) (va_cwS 1 hts gX5_turn_X5_isSlot rfl rfl rfl hdX5_isSlot ⟨(Nat.le_of_ble_eq_true rfl), (Nat.le_of_ble_eq_true rfl)⟩) hK hN hP hD hS hA rfl hl.1 rfl (Nat.le_of_ble_eq_true rfl) rfl dX5_turn_1 ⟨Nat.zero_le _, Nat.zero_le _⟩ (fun H locs hP hS => ?_)
  refine lv_if_eq (tgt := 14) hx hb dX5_turn_4 (by decide) (fun c_2 => ?_) (fun c_2 => ?_)
  · have hM := on_pos c_2 hM
    refine lv_iconst (v := -1) hx hb dX5_turn_14 (by decide) ?_
    have hM := Option.some.inj hM
    subst hM
    rw [← hQ]
    exact on_iret hx hb hr hlk hP hD hS dX5_turn_15
  · have hM := on_neg c_2 hM
    refine lv_iload_n hx hb dX5_turn_7 rfl (lv_at hl 2 rfl) ?_
    obtain ⟨q_3, hq_3, hM⟩ := on_bind hM
    refine on_callS0 (rest := []) (As := [.int v2]) (st1 := [.int q_3]) ⟨hx, hb, hml, hown, hts⟩ (k_X5_isSlot v2 q_3 hq_3) (va_cwS 1 hts gX5_turn_X5_isSlot rfl rfl rfl hdX5_isSlot ⟨(Nat.le_of_ble_eq_true rfl), (Nat.le_of_ble_eq_true rfl)⟩) hK hN hP hD hS hA rfl hl.1 rfl (Nat.le_of_ble_eq_true rfl) rfl dX5_turn_8 ⟨Nat.zero_le _, Nat.zero_le _⟩ (fun H locs hP hS => ?_)
    refine lv_if_ne (tgt := 16) hx hb dX5_turn_11 (by decide) (fun c_4 => ?_) (fun c_4 => ?_)
    · have hM := on_neg c_4 hM
      refine lv_iload_n hx hb dX5_turn_16 rfl (lv_at hl 3 rfl) ?_
      refine lv_iconst (v := 0) hx hb dX5_turn_17 (by decide) ?_
      refine lv_iconst (v := 1) hx hb dX5_turn_18 (by decide) ?_
      refine lv_aload_n hx hb dX5_turn_19 rfl (lv_at hl 0 rfl) ?_
      refine va_get (D := D) (ci := 5) (v := .ref h_t_now) (C := RX5) (T := TX5) (N := 8) hx hb hts w2 hown hK hP 0 rfl rfl 0 (by decide) w1 (fun _ h9 => h9) rfl dX5_turn_20 ?_
      refine va_getN (D := D) (ci := 3) (v := .int t_now_many) (C := RX3) (T := TX3) (N := 2) hx hb hts w3 hown hK hP 1 rfl rfl 0 (by decide) (va_Nw.use rfl (hN _ (List.mem_of_getElem? (i := 0) rfl))) (fun _ h9 => h9) rfl dX5_turn_23 ?_
      refine lv_ishl hx hb dX5_turn_26 ?_
      refine lv_iconst (v := 1) hx hb dX5_turn_27 (by decide) ?_
      refine lv_isub hx hb dX5_turn_28 ?_
      obtain ⟨q_5, hq_5, hM⟩ := on_bind hM
      refine on_callS0 (rest := []) (As := [.int v3, .int (0 : Int32), .int (((1 : Int32) <<< (t_now_many &&& 31)) - (1 : Int32))]) (st1 := [.int q_5]) ⟨hx, hb, hml, hown, hts⟩ (k_X5_within v3 (0 : Int32) (((1 : Int32) <<< (t_now_many &&& 31)) - (1 : Int32)) q_5 hq_5) (va_cwS 3 hts gX5_turn_X5_within rfl rfl rfl hdX5_within ⟨(Nat.le_of_ble_eq_true rfl), (Nat.le_of_ble_eq_true rfl)⟩) hK hN hP hD hS hA rfl hl.1 rfl (Nat.le_of_ble_eq_true rfl) rfl dX5_turn_29 ⟨Nat.zero_le _, Nat.zero_le _⟩ (fun H locs hP hS => ?_)
      refine lv_if_ne (tgt := 38) hx hb dX5_turn_32 (by decide) (fun c_6 => ?_) (fun c_6 => ?_)
      · have hM := on_neg c_6 hM
        refine lv_aload_n hx hb dX5_turn_38 rfl (lv_at hl 0 rfl) ?_
        refine lv_aload_n hx hb dX5_turn_39 rfl (lv_at hl 0 rfl) ?_
        refine va_get (D := D) (ci := 5) (v := .ref h_t_net) (C := RX5) (T := TX5) (N := 8) hx hb hts w2 hown hK hP 0 rfl rfl 3 (by decide) w4 (fun _ h9 => h9) rfl dX5_turn_40 ?_
        refine lv_iload_n hx hb dX5_turn_43 rfl (lv_at hl 2 rfl) ?_
        obtain ⟨q_7, hq_7, hM⟩ := on_bind hM
        refine on_callV (rest := []) (As := [.ref h_t_net, .int v2]) (st1 := []) (C := RX5) (ci := 5) (q0 := 0) (wc := [(h_t, .inr (5, [.ref h_t_now, .ref h_t_images, .ref h_t_pad, .ref h_t_net, .ref h_t_second, .ref h_t_renumbering, .ref h_t_table, .ref h_t_marks])), (h_t_now, .inr (3, [.int t_now_many, .ref h_t_now_numbers])), (h_t_now_numbers, .inl (cI, 3, .inl t_now_numbers)), (h_t_net, .inr (0, [.int t_net_many, .ref h_t_net_rows])), (h_t_net_rows, .inl (cI, 7, .inl t_net_rows))]) (wr := []) (wc' := [(h_t, .inr (5, [.ref h_t_now, .ref h_t_images, .ref h_t_pad, .ref h_t_net, .ref h_t_second, .ref h_t_renumbering, .ref h_t_table, .ref h_t_marks])), (h_t_now, .inr (3, [.int t_now_many, .ref h_t_now_numbers])), (h_t_now_numbers, .inl (cI, 3, .inl t_now_numbers)), (h_t_net, .inr (0, [.int q_7.1, .ref h_t_net_rows])), (h_t_net_rows, .inl (cI, 7, .inl q_7.2))]) (wf := [(h_t, .inr (5, [.ref h_t_now, .ref h_t_images, .ref h_t_pad, .ref h_t_net, .ref h_t_second, .ref h_t_renumbering, .ref h_t_table, .ref h_t_marks])), (h_t_now, .inr (3, [.int t_now_many, .ref h_t_now_numbers])), (h_t_now_numbers, .inl (cI, 3, .inl t_now_numbers)), (h_t_net, .inr (0, [.int q_7.1, .ref h_t_net_rows])), (h_t_net_rows, .inl (cI, 7, .inl q_7.2))]) (rt := none) ⟨hx, hb, hml, hown, hts⟩ (k_X5_load h_t h_t_now h_t_images h_t_pad h_t_net h_t_second h_t_renumbering h_t_table h_t_marks h_t_now_numbers h_t_net h_t_net_rows t_now_many t_now_numbers t_net_many t_net_rows v2 q_7 hq_7) (cwV 2 hts gX5_turn_X5_load rfl rfl rfl ⟨rfl, hdX5_load⟩ ⟨(Nat.le_of_ble_eq_true rfl), (Nat.le_of_ble_eq_true rfl)⟩) hK hN hP hD hS hA [0, 1, 2, 3, 4] [] [0, 1, 2, 3, 4] rfl rfl rfl rfl (by decide) rfl rfl rfl rfl rfl rfl hl.1 rfl (Nat.le_of_ble_eq_true rfl) rfl dX5_turn_44 ⟨Nat.zero_le _, Nat.zero_le _⟩ (fun H locs hP hD hS => ?_)
        refine lv_aload_n hx hb dX5_turn_47 rfl (lv_at hl 0 rfl) ?_
        refine va_get (D := D) (ci := 5) (v := .ref h_t_net) (C := RX5) (T := TX5) (N := 8) hx hb hts w2 hown hK hP 0 rfl rfl 3 (by decide) w4 (fun _ h9 => h9) rfl dX5_turn_48 ?_
        refine lv_iload_n hx hb dX5_turn_51 rfl (lv_at hl 3 rfl) ?_
        obtain ⟨q_8, hq_8, hM⟩ := on_bind hM
        refine on_callVN (rest := []) (As := [.int v3]) (st1 := []) (C := RX0) (ci := 0) (q0 := 3) (wc := [(h_t_net, .inr (0, [.int q_7.1, .ref h_t_net_rows])), (h_t_net_rows, .inl (cI, 7, .inl q_7.2))]) (wr := [(h_t, .inr (5, [.ref h_t_now, .ref h_t_images, .ref h_t_pad, .ref h_t_net, .ref h_t_second, .ref h_t_renumbering, .ref h_t_table, .ref h_t_marks])), (h_t_now, .inr (3, [.int t_now_many, .ref h_t_now_numbers])), (h_t_now_numbers, .inl (cI, 3, .inl t_now_numbers))]) (wc' := [(h_t_net, .inr (0, [.int q_7.1, .ref h_t_net_rows])), (h_t_net_rows, .inl (cI, 7, .inl q_8))]) (wf := [(h_t, .inr (5, [.ref h_t_now, .ref h_t_images, .ref h_t_pad, .ref h_t_net, .ref h_t_second, .ref h_t_renumbering, .ref h_t_table, .ref h_t_marks])), (h_t_now, .inr (3, [.int t_now_many, .ref h_t_now_numbers])), (h_t_now_numbers, .inl (cI, 3, .inl t_now_numbers)), (h_t_net, .inr (0, [.int q_7.1, .ref h_t_net_rows])), (h_t_net_rows, .inl (cI, 7, .inl q_8))]) (rt := none) ⟨hx, hb, hml, hown, hts⟩ (k_X0_switchBy h_t_net h_t_net_rows q_7.1 q_7.2 v3 q_8 hq_8) ⟨va_cnB 1 hts gX5_turn_X0_switchBy_n117 rfl rfl rfl (hN _ (List.mem_of_getElem? (i := 26) rfl)) w5 hdX0_switchBy ⟨(Nat.le_of_ble_eq_true rfl), (Nat.le_of_ble_eq_true rfl)⟩, w6, w7⟩ hK hN hP hD hS hA [3, 4] [0, 1, 2] [0, 1, 2, 3, 4] rfl rfl rfl rfl (by decide) rfl rfl rfl rfl rfl rfl hl.1 rfl (Nat.le_of_ble_eq_true rfl) rfl dX5_turn_52 ⟨Nat.zero_le _, Nat.zero_le _⟩ (fun H locs hP hD hS => ?_)
        refine lv_aload_n hx hb dX5_turn_55 rfl (lv_at hl 0 rfl) ?_
        refine va_get (D := D) (ci := 5) (v := .ref h_t_now) (C := RX5) (T := TX5) (N := 8) hx hb hts w2 hown hK hP 0 rfl rfl 0 (by decide) w1 (fun _ h9 => h9) rfl dX5_turn_56 ?_
        refine va_getN (D := D) (ci := 3) (v := .ref h_t_now_numbers) (C := RX3) (T := TX3) (N := 2) hx hb hts w3 hown hK hP 1 rfl rfl 1 (by decide) (va_Nw.use rfl (hN _ (List.mem_of_getElem? (i := 1) rfl))) (fun _ h9 => h9) rfl dX5_turn_59 ?_
        refine lv_iload_n hx hb dX5_turn_62 rfl (lv_at hl 1 rfl) ?_
        refine lv_aload_n hx hb dX5_turn_63 rfl (lv_at hl 0 rfl) ?_
        refine va_get (D := D) (ci := 5) (v := .ref h_t_net) (C := RX5) (T := TX5) (N := 8) hx hb hts w2 hown hK hP 0 rfl rfl 3 (by decide) w4 (fun _ h9 => h9) rfl dX5_turn_64 ?_
        obtain ⟨q_9, hq_9, hM⟩ := on_bind hM
        refine on_callVN (rest := [.int v1, .ref h_t_now_numbers]) (As := []) (st1 := [.int q_9, .int v1, .ref h_t_now_numbers]) (C := RX0) (ci := 0) (q0 := 3) (wc := [(h_t_net, .inr (0, [.int q_7.1, .ref h_t_net_rows])), (h_t_net_rows, .inl (cI, 7, .inl q_8))]) (wr := [(h_t, .inr (5, [.ref h_t_now, .ref h_t_images, .ref h_t_pad, .ref h_t_net, .ref h_t_second, .ref h_t_renumbering, .ref h_t_table, .ref h_t_marks])), (h_t_now, .inr (3, [.int t_now_many, .ref h_t_now_numbers])), (h_t_now_numbers, .inl (cI, 3, .inl t_now_numbers))]) (wc' := [(h_t_net, .inr (0, [.int q_7.1, .ref h_t_net_rows])), (h_t_net_rows, .inl (cI, 7, .inl q_8))]) (wf := [(h_t, .inr (5, [.ref h_t_now, .ref h_t_images, .ref h_t_pad, .ref h_t_net, .ref h_t_second, .ref h_t_renumbering, .ref h_t_table, .ref h_t_marks])), (h_t_now, .inr (3, [.int t_now_many, .ref h_t_now_numbers])), (h_t_now_numbers, .inl (cI, 3, .inl t_now_numbers)), (h_t_net, .inr (0, [.int q_7.1, .ref h_t_net_rows])), (h_t_net_rows, .inl (cI, 7, .inl q_8))]) (rt := (some (.int q_9))) ⟨hx, hb, hml, hown, hts⟩ (k_X0_number h_t_net h_t_net_rows q_7.1 q_8 q_9 hq_9) ⟨va_cnB 0 hts gX5_turn_X0_number_n85 rfl rfl rfl (hN _ (List.mem_of_getElem? (i := 19) rfl)) w5 hdX0_number ⟨(Nat.le_of_ble_eq_true rfl), (Nat.le_of_ble_eq_true rfl)⟩, w8, w9⟩ hK hN hP hD hS hA [3, 4] [0, 1, 2] [0, 1, 2, 3, 4] rfl rfl rfl rfl (by decide) rfl rfl rfl rfl rfl rfl hl.1 rfl (Nat.le_of_ble_eq_true rfl) rfl dX5_turn_67 ⟨Nat.zero_le _, Nat.zero_le _⟩ (fun H locs hP hD hS => ?_)
        obtain ⟨g_10, hM⟩ := on_gdE hM
        refine va_iast hx hb hK hP hD hS 2 0 rfl rfl (on_ixE g_10) dX5_turn_70 (fun H locs hP hD hS => ?_)
        have hP : va_P D vwCl [(h_t, .inr (5, [.ref h_t_now, .ref h_t_images, .ref h_t_pad, .ref h_t_net, .ref h_t_second, .ref h_t_renumbering, .ref h_t_table, .ref h_t_marks])), (h_t_now, .inr (3, [.int t_now_many, .ref h_t_now_numbers])), (h_t_now_numbers, .inl (cI, 3, .inl (upd t_now_numbers (Int32.toNatClampNeg v1) q_9))), (h_t_net, .inr (0, [.int q_7.1, .ref h_t_net_rows])), (h_t_net_rows, .inl (cI, 7, .inl q_8))] H := hP
        have hD : va_D A [(h_t, .inr (5, [.ref h_t_now, .ref h_t_images, .ref h_t_pad, .ref h_t_net, .ref h_t_second, .ref h_t_renumbering, .ref h_t_table, .ref h_t_marks])), (h_t_now, .inr (3, [.int t_now_many, .ref h_t_now_numbers])), (h_t_now_numbers, .inl (cI, 3, .inl (upd t_now_numbers (Int32.toNatClampNeg v1) q_9))), (h_t_net, .inr (0, [.int q_7.1, .ref h_t_net_rows])), (h_t_net_rows, .inl (cI, 7, .inl q_8))] := hD
        refine lv_aload_n hx hb dX5_turn_71 rfl (lv_at hl 0 rfl) ?_
        refine va_get (D := D) (ci := 5) (v := .ref h_t_now) (C := RX5) (T := TX5) (N := 8) hx hb hts w2 hown hK hP 0 rfl rfl 0 (by decide) w1 (fun _ h9 => h9) rfl dX5_turn_72 ?_
        refine va_getN (D := D) (ci := 3) (v := .ref h_t_now_numbers) (C := RX3) (T := TX3) (N := 2) hx hb hts w3 hown hK hP 1 rfl rfl 1 (by decide) (va_Nw.use rfl (hN _ (List.mem_of_getElem? (i := 1) rfl))) (fun _ h9 => h9) rfl dX5_turn_75 ?_
        refine lv_iload_n hx hb dX5_turn_78 rfl (lv_at hl 1 rfl) ?_
        obtain ⟨g_11, hM⟩ := on_gdE hM
        refine va_iald hx hb hK hP 2 0 rfl rfl (on_ixE g_11) dX5_turn_79 ?_
        have hM := Option.some.inj hM
        subst hM
        rw [← hQ]
        exact on_iret hx hb hr hlk hP hD hS dX5_turn_80
      · have hM := on_pos c_6 hM
        refine lv_bipush (v := -2) hx hb dX5_turn_35 (by decide) ?_
        have hM := Option.some.inj hM
        subst hM
        rw [← hQ]
        exact on_iret hx hb hr hlk hP hD hS dX5_turn_37
    · have hM := on_pos c_4 hM
      refine lv_iconst (v := -1) hx hb dX5_turn_14 (by decide) ?_
      have hM := Option.some.inj hM
      subst hM
      rw [← hQ]
      exact on_iret hx hb hr hlk hP hD hS dX5_turn_15
abbrev rm_X0_oddDegrees : Room := { frames := 2, cells := 0, slots := 0, locals := 41 }
set_option maxHeartbeats 4000000 in
set_option maxRecDepth 100000 in
theorem k_X0_oddDegrees {l : Launch} {D : va_G} {cI cJ cZ cS cA : ClassId} (h_t : Nat) (h_t_rows : Nat) (t_many : Int32) (t_rows : Nat → Int32)  (out : Int32) (hM : M_X0_oddDegrees t_many t_rows = some out) : on_Con l yX0_oddDegrees wsX0_oddDegrees rm_X0_oddDegrees [.ref h_t] D (on_T cI cJ cZ cS cA) [(h_t, .inr (0, [.int t_many, .ref h_t_rows])), (h_t_rows, .inl (cI, 7, .inl t_rows))] (some (.int out)) [(h_t, .inr (0, [.int t_many, .ref h_t_rows])), (h_t_rows, .inl (cI, 7, .inl t_rows))] := by
  unfold M_X0_oddDegrees at hM
  refine on_enter (cc := cX0_oddDegrees) (nL := 3) (rt := (some .int)) (own := RX0) (by decide +kernel) rfl rfl (Nat.le_of_ble_eq_true rfl) ?_
  intro p e s m below meth c A ls hx hb hml hr hlk hts hown hA hK hN H locs hP hD hS hl
  have hl : lv_has ls 3 [(0, .ref h_t)] := hl
  generalize hQ : MQ below (on_Q D (some (.int out)) [(h_t, .inr (0, [.int t_many, .ref h_t_rows])), (h_t_rows, .inl (cI, 7, .inl t_rows))] A) _ s 0 0 A = Q
  generalize hAr : List.toArray ([.ref h_t] : List Value) = args at hts hQ ⊢
  have w1 := hts (.fieldLink RX0 9 "OddNets$Net" "many" "I") (by decide +kernel)
  have w2 : ∀ w ∈ wsX00, w ∈ wsX0_oddDegrees := by decide +kernel
  have lp_4 : ∀ (n : Nat) (v1 : Int32) (v2 : Int32) (x : Int32), on_loop (fun (s : Int32 × Int32) => B_X0_oddDegrees_4 t_many t_rows s.1 s.2) n (v1, v2) = some x → (∀ (H : Heap) (locs : List Loc), va_P D vwCl [(h_t, .inr (0, [.int t_many, .ref h_t_rows])), (h_t_rows, .inl (cI, 7, .inl t_rows))] H → va_D A [(h_t, .inr (0, [.int t_many, .ref h_t_rows])), (h_t_rows, .inl (cI, 7, .inl t_rows))] → va_S A s.heap H locs → ∀ ls : Array Slot, lv_has ls 3 [(1, .int x)] → W p l e rm_X0_oddDegrees s m args below meth c H locs 0 0 Q (F0 m 30 ls [])) → ∀ (H : Heap) (locs : List Loc), va_P D vwCl [(h_t, .inr (0, [.int t_many, .ref h_t_rows])), (h_t_rows, .inl (cI, 7, .inl t_rows))] H → va_D A [(h_t, .inr (0, [.int t_many, .ref h_t_rows])), (h_t_rows, .inl (cI, 7, .inl t_rows))] → va_S A s.heap H locs → ∀ ls : Array Slot, lv_has ls 3 [(0, .ref h_t), (1, .int v1), (2, .int v2)] → W p l e rm_X0_oddDegrees s m args below meth c H locs 0 0 Q (F0 m 4 ls []) := by
    intro n
    induction n with
    | zero =>
      intro v1 v2 x hL
      exact (on_loop0 hL).elim
    | succ n ih =>
      intro v1 v2 x hL K1 H locs hP hD hS ls hl
      obtain ⟨y, hM, hk⟩ := on_loopE hL
      have hM : B_X0_oddDegrees_4 t_many t_rows v1 v2 = some y := hM
      unfold B_X0_oddDegrees_4 at hM
      refine lv_iload_n hx hb dX0_oddDegrees_4 rfl (lv_at hl 2 rfl) ?_
      refine lv_aload_n hx hb dX0_oddDegrees_5 rfl (lv_at hl 0 rfl) ?_
      refine va_get (D := D) (ci := 0) (v := .int t_many) (C := RX0) (T := TX0) (N := 2) hx hb hts w2 hown hK hP 0 rfl rfl 0 (by decide) w1 (fun _ h9 => h9) rfl dX0_oddDegrees_6 ?_
      refine lv_icmp_ge (tgt := 30) hx hb dX0_oddDegrees_9 (by decide) (fun c_1 => ?_) (fun c_1 => ?_)
      · have hM := on_pos c_1 hM
        have hk := on_nxR hM hk
        subst hk
        exact K1 _ _ hP hD hS ls (lv_sub hl [1] rfl)
      · have hM := on_neg c_1 hM
        refine lv_iload_n hx hb dX0_oddDegrees_12 rfl (lv_at hl 1 rfl) ?_
        refine lv_aload_n hx hb dX0_oddDegrees_13 rfl (lv_at hl 0 rfl) ?_
        refine lv_iload_n hx hb dX0_oddDegrees_14 rfl (lv_at hl 2 rfl) ?_
        obtain ⟨q_2, hq_2, hM⟩ := on_bind hM
        refine on_callV (rest := [.int v1]) (As := [.int v2]) (st1 := [.int q_2, .int v1]) (C := RX0) (ci := 0) (q0 := 0) (wc := [(h_t, .inr (0, [.int t_many, .ref h_t_rows])), (h_t_rows, .inl (cI, 7, .inl t_rows))]) (wr := []) (wc' := [(h_t, .inr (0, [.int t_many, .ref h_t_rows])), (h_t_rows, .inl (cI, 7, .inl t_rows))]) (wf := [(h_t, .inr (0, [.int t_many, .ref h_t_rows])), (h_t_rows, .inl (cI, 7, .inl t_rows))]) (rt := (some (.int q_2))) ⟨hx, hb, hml, hown, hts⟩ (k_X0_degree h_t h_t_rows t_many t_rows v2 q_2 hq_2) (cwV 1 hts gX0_oddDegrees_X0_degree rfl rfl rfl ⟨rfl, hdX0_degree⟩ ⟨(Nat.le_of_ble_eq_true rfl), (Nat.le_of_ble_eq_true rfl)⟩) hK hN hP hD hS hA [0, 1] [] [0, 1] rfl rfl rfl rfl (by decide) rfl rfl rfl rfl rfl rfl hl.1 rfl (Nat.le_of_ble_eq_true rfl) rfl dX0_oddDegrees_15 ⟨Nat.zero_le _, Nat.zero_le _⟩ (fun H locs hP hD hS => ?_)
        refine lv_iconst (v := 1) hx hb dX0_oddDegrees_18 (by decide) ?_
        refine lv_iand hx hb dX0_oddDegrees_19 ?_
        refine lv_iload_n hx hb dX0_oddDegrees_20 rfl (lv_at hl 2 rfl) ?_
        refine lv_ishl hx hb dX0_oddDegrees_21 ?_
        refine lv_ior hx hb dX0_oddDegrees_22 ?_
        refine lv_topi (fun v1_3 ev1_3 => ?_)
        have hM := on_letE ev1_3 hM
        refine lv_istore_n (lv' := [(1, .int v1_3), (0, .ref h_t), (2, .int v2)]) hx hb dX0_oddDegrees_23 rfl hl (by decide) rfl (fun ls hl => ?_)
        obtain ⟨v2_4, ev2_4⟩ : ∃ z : Int32, z = v2 + 1 := ⟨_, rfl⟩
        have hM := on_letE ev2_4 hM
        refine lv_iinc (v := v2_4) (lv' := [(2, .int v2_4), (1, .int v1_3), (0, .ref h_t)]) hx hb dX0_oddDegrees_24 hl (k := 2) rfl (by rw [ev2_4]; rfl) (by decide) rfl (fun ls hl => ?_)
        refine lv_goto (tgt := 4) hx hb dX0_oddDegrees_27 (by decide) ?_
        have hk := on_nxL hM hk
        exact ih v1_3 v2_4 _ hk K1 _ _ hP hD hS ls (lv_sub hl [2, 1, 0] rfl)
  refine lv_iconst (v := 0) hx hb dX0_oddDegrees_0 (by decide) ?_
  refine lv_istore_n (lv' := [(1, .int (0 : Int32)), (0, .ref h_t)]) hx hb dX0_oddDegrees_1 rfl hl (by decide) rfl (fun ls hl => ?_)
  refine lv_iconst (v := 0) hx hb dX0_oddDegrees_2 (by decide) ?_
  refine lv_istore_n (lv' := [(2, .int (0 : Int32)), (1, .int (0 : Int32)), (0, .ref h_t)]) hx hb dX0_oddDegrees_3 rfl hl (by decide) rfl (fun ls hl => ?_)
  obtain ⟨q_5, hq_5, hM⟩ := on_bind hM
  refine lp_4  on_F (0 : Int32) (0 : Int32) q_5 hq_5 (fun H locs hP hD hS ls hl => ?_) H locs hP hD hS ls (lv_sub hl [2, 1, 0] rfl)
  refine lv_iload_n hx hb dX0_oddDegrees_30 rfl (lv_at hl 0 rfl) ?_
  have hM := Option.some.inj hM
  subst hM
  rw [← hQ]
  exact on_iret hx hb hr hlk hP hD hS dX0_oddDegrees_31
abbrev rm_X0_oddTriplesAtPair : Room := { frames := 1, cells := 0, slots := 0, locals := 22 }
set_option maxHeartbeats 4000000 in
set_option maxRecDepth 100000 in
theorem k_X0_oddTriplesAtPair {l : Launch} {D : va_G} {cI cJ cZ cS cA : ClassId} (h_t : Nat) (h_t_rows : Nat) (t_many : Int32) (t_rows : Nat → Int32) (v1 : Int32) (v2 : Int32) (out : Int32) (hM : M_X0_oddTriplesAtPair v1 v2 t_many t_rows = some out) : on_Con l yX0_oddTriplesAtPair wsX0_oddTriplesAtPair rm_X0_oddTriplesAtPair [.ref h_t, .int v1, .int v2] D (on_T cI cJ cZ cS cA) [(h_t, .inr (0, [.int t_many, .ref h_t_rows])), (h_t_rows, .inl (cI, 7, .inl t_rows))] (some (.int out)) [(h_t, .inr (0, [.int t_many, .ref h_t_rows])), (h_t_rows, .inl (cI, 7, .inl t_rows))] := by
  unfold M_X0_oddTriplesAtPair at hM
  refine on_enter (cc := cX0_oddTriplesAtPair) (nL := 4) (rt := (some .int)) (own := RX0) (by decide +kernel) rfl rfl (Nat.le_of_ble_eq_true rfl) ?_
  intro p e s m below meth c A ls hx hb hml hr hlk hts hown hA hK hN H locs hP hD hS hl
  have hl : lv_has ls 4 [(0, .ref h_t), (1, .int v1), (2, .int v2)] := hl
  generalize hQ : MQ below (on_Q D (some (.int out)) [(h_t, .inr (0, [.int t_many, .ref h_t_rows])), (h_t_rows, .inl (cI, 7, .inl t_rows))] A) _ s 0 0 A = Q
  generalize hAr : List.toArray ([.ref h_t, .int v1, .int v2] : List Value) = args at hts hQ ⊢
  have w1 := hts (.fieldLink RX0 15 "OddNets$Net" "rows" "[I") (by decide +kernel)
  have w2 : ∀ w ∈ wsX00, w ∈ wsX0_oddTriplesAtPair := by decide +kernel
  refine lv_aload_n hx hb dX0_oddTriplesAtPair_0 rfl (lv_at hl 0 rfl) ?_
  refine va_get (D := D) (ci := 0) (v := .ref h_t_rows) (C := RX0) (T := TX0) (N := 2) hx hb hts w2 hown hK hP 0 rfl rfl 1 (by decide) w1 (fun _ h9 => h9) rfl dX0_oddTriplesAtPair_1 ?_
  refine lv_iload_n hx hb dX0_oddTriplesAtPair_4 rfl (lv_at hl 1 rfl) ?_
  obtain ⟨g_1, hM⟩ := on_gdE hM
  refine va_iald hx hb hK hP 1 0 rfl rfl (on_ixE g_1) dX0_oddTriplesAtPair_5 ?_
  refine lv_aload_n hx hb dX0_oddTriplesAtPair_6 rfl (lv_at hl 0 rfl) ?_
  refine va_get (D := D) (ci := 0) (v := .ref h_t_rows) (C := RX0) (T := TX0) (N := 2) hx hb hts w2 hown hK hP 0 rfl rfl 1 (by decide) w1 (fun _ h9 => h9) rfl dX0_oddTriplesAtPair_7 ?_
  refine lv_iload_n hx hb dX0_oddTriplesAtPair_10 rfl (lv_at hl 2 rfl) ?_
  obtain ⟨g_2, hM⟩ := on_gdE hM
  refine va_iald hx hb hK hP 1 0 rfl rfl (on_ixE g_2) dX0_oddTriplesAtPair_11 ?_
  refine lv_ixor hx hb dX0_oddTriplesAtPair_12 ?_
  refine lv_topi (fun v3_3 ev3_3 => ?_)
  have hM := on_letE ev3_3 hM
  refine lv_istore_n (lv' := [(3, .int v3_3), (0, .ref h_t), (1, .int v1), (2, .int v2)]) hx hb dX0_oddTriplesAtPair_13 rfl hl (by decide) rfl (fun ls hl => ?_)
  refine lv_aload_n hx hb dX0_oddTriplesAtPair_14 rfl (lv_at hl 1 rfl) ?_
  refine lv_iload_n hx hb dX0_oddTriplesAtPair_15 rfl (lv_at hl 2 rfl) ?_
  refine lv_iload_n hx hb dX0_oddTriplesAtPair_16 rfl (lv_at hl 3 rfl) ?_
  obtain ⟨q_4, hq_4, hM⟩ := on_bind hM
  refine on_callV (rest := []) (As := [.int v1, .int v2]) (st1 := [.int q_4]) (C := RX0) (ci := 0) (q0 := 0) (wc := [(h_t, .inr (0, [.int t_many, .ref h_t_rows])), (h_t_rows, .inl (cI, 7, .inl t_rows))]) (wr := []) (wc' := [(h_t, .inr (0, [.int t_many, .ref h_t_rows])), (h_t_rows, .inl (cI, 7, .inl t_rows))]) (wf := [(h_t, .inr (0, [.int t_many, .ref h_t_rows])), (h_t_rows, .inl (cI, 7, .inl t_rows))]) (rt := (some (.int q_4))) ⟨hx, hb, hml, hown, hts⟩ (k_X0_joined h_t h_t_rows t_many t_rows v1 v2 q_4 hq_4) (cwV 2 hts gX0_oddTriplesAtPair_X0_joined rfl rfl rfl ⟨rfl, hdX0_joined⟩ ⟨(Nat.le_of_ble_eq_true rfl), (Nat.le_of_ble_eq_true rfl)⟩) hK hN hP hD hS hA [0, 1] [] [0, 1] rfl rfl rfl rfl (by decide) rfl rfl rfl rfl rfl rfl hl.1 rfl (Nat.le_of_ble_eq_true rfl) rfl dX0_oddTriplesAtPair_17 ⟨Nat.zero_le _, Nat.zero_le _⟩ (fun H locs hP hD hS => ?_)
  refine lv_iconst (v := 1) hx hb dX0_oddTriplesAtPair_20 (by decide) ?_
  refine lv_icmp_ne (tgt := 28) hx hb dX0_oddTriplesAtPair_21 (by decide) (fun c_5 => ?_) (fun c_5 => ?_)
  · have hM := on_neg c_5 hM
    refine lv_iload_n hx hb dX0_oddTriplesAtPair_28 rfl (lv_at hl 0 rfl) ?_
    refine lv_aload_n hx hb dX0_oddTriplesAtPair_29 rfl (lv_at hl 1 rfl) ?_
    obtain ⟨q_6, hq_6, hM⟩ := on_bind hM
    refine on_callV (rest := [.int v3_3]) (As := []) (st1 := [.int q_6, .int v3_3]) (C := RX0) (ci := 0) (q0 := 0) (wc := [(h_t, .inr (0, [.int t_many, .ref h_t_rows]))]) (wr := [(h_t_rows, .inl (cI, 7, .inl t_rows))]) (wc' := [(h_t, .inr (0, [.int t_many, .ref h_t_rows]))]) (wf := [(h_t, .inr (0, [.int t_many, .ref h_t_rows])), (h_t_rows, .inl (cI, 7, .inl t_rows))]) (rt := (some (.int q_6))) ⟨hx, hb, hml, hown, hts⟩ (k_X0_allNodes h_t h_t_rows t_many q_6 hq_6) (cwV 0 hts gX0_oddTriplesAtPair_X0_allNodes rfl rfl rfl ⟨rfl, hdX0_allNodes⟩ ⟨(Nat.le_of_ble_eq_true rfl), (Nat.le_of_ble_eq_true rfl)⟩) hK hN hP hD hS hA [0] [1] [1, 0] rfl rfl rfl rfl (by decide) rfl rfl rfl rfl rfl rfl hl.1 rfl (Nat.le_of_ble_eq_true rfl) rfl dX0_oddTriplesAtPair_30 ⟨Nat.zero_le _, Nat.zero_le _⟩ (fun H locs hP hD hS => ?_)
    refine lv_iand hx hb dX0_oddTriplesAtPair_33 ?_
    refine lv_iconst (v := 1) hx hb dX0_oddTriplesAtPair_34 (by decide) ?_
    refine lv_iload_n hx hb dX0_oddTriplesAtPair_35 rfl (lv_at hl 2 rfl) ?_
    refine lv_ishl hx hb dX0_oddTriplesAtPair_36 ?_
    refine lv_iconst (v := 1) hx hb dX0_oddTriplesAtPair_37 (by decide) ?_
    refine lv_iload_n hx hb dX0_oddTriplesAtPair_38 rfl (lv_at hl 3 rfl) ?_
    refine lv_ishl hx hb dX0_oddTriplesAtPair_39 ?_
    refine lv_ior hx hb dX0_oddTriplesAtPair_40 ?_
    refine lv_iconst (v := -1) hx hb dX0_oddTriplesAtPair_41 (by decide) ?_
    refine lv_ixor hx hb dX0_oddTriplesAtPair_42 ?_
    refine lv_iand hx hb dX0_oddTriplesAtPair_43 ?_
    obtain ⟨q_7, hq_7, hM⟩ := on_bind hM
    refine on_callS0 (rest := []) (As := [.int ((v3_3 &&& q_6) &&& ((((1 : Int32) <<< (v1 &&& 31)) ||| ((1 : Int32) <<< (v2 &&& 31))) ^^^ (-1 : Int32)))]) (st1 := [.int q_7]) ⟨hx, hb, hml, hown, hts⟩ (k_J6_bitCount_0f7a4 ((v3_3 &&& q_6) &&& ((((1 : Int32) <<< (v1 &&& 31)) ||| ((1 : Int32) <<< (v2 &&& 31))) ^^^ (-1 : Int32))) q_7 hq_7) (va_cwS 1 hts gX0_oddTriplesAtPair_J6_bitCount_0f7a4 rfl rfl rfl hdJ6_bitCount_0f7a4 ⟨(Nat.le_of_ble_eq_true rfl), (Nat.le_of_ble_eq_true rfl)⟩) hK hN hP hD hS hA rfl hl.1 rfl (Nat.le_of_ble_eq_true rfl) rfl dX0_oddTriplesAtPair_44 ⟨Nat.zero_le _, Nat.zero_le _⟩ (fun H locs hP hS => ?_)
    have hM := Option.some.inj hM
    subst hM
    rw [← hQ]
    exact on_iret hx hb hr hlk hP hD hS dX0_oddTriplesAtPair_47
  · have hM := on_pos c_5 hM
    refine lv_iload_n hx hb dX0_oddTriplesAtPair_24 rfl (lv_at hl 0 rfl) ?_
    refine lv_iconst (v := -1) hx hb dX0_oddTriplesAtPair_25 (by decide) ?_
    refine lv_ixor hx hb dX0_oddTriplesAtPair_26 ?_
    refine lv_topi (fun v3_8 ev3_8 => ?_)
    have hM := on_letE ev3_8 hM
    refine lv_istore_n (lv' := [(3, .int v3_8), (0, .ref h_t), (1, .int v1), (2, .int v2)]) hx hb dX0_oddTriplesAtPair_27 rfl hl (by decide) rfl (fun ls hl => ?_)
    refine lv_iload_n hx hb dX0_oddTriplesAtPair_28 rfl (lv_at hl 0 rfl) ?_
    refine lv_aload_n hx hb dX0_oddTriplesAtPair_29 rfl (lv_at hl 1 rfl) ?_
    obtain ⟨q_9, hq_9, hM⟩ := on_bind hM
    refine on_callV (rest := [.int v3_8]) (As := []) (st1 := [.int q_9, .int v3_8]) (C := RX0) (ci := 0) (q0 := 0) (wc := [(h_t, .inr (0, [.int t_many, .ref h_t_rows]))]) (wr := [(h_t_rows, .inl (cI, 7, .inl t_rows))]) (wc' := [(h_t, .inr (0, [.int t_many, .ref h_t_rows]))]) (wf := [(h_t, .inr (0, [.int t_many, .ref h_t_rows])), (h_t_rows, .inl (cI, 7, .inl t_rows))]) (rt := (some (.int q_9))) ⟨hx, hb, hml, hown, hts⟩ (k_X0_allNodes h_t h_t_rows t_many q_9 hq_9) (cwV 0 hts gX0_oddTriplesAtPair_X0_allNodes rfl rfl rfl ⟨rfl, hdX0_allNodes⟩ ⟨(Nat.le_of_ble_eq_true rfl), (Nat.le_of_ble_eq_true rfl)⟩) hK hN hP hD hS hA [0] [1] [1, 0] rfl rfl rfl rfl (by decide) rfl rfl rfl rfl rfl rfl hl.1 rfl (Nat.le_of_ble_eq_true rfl) rfl dX0_oddTriplesAtPair_30 ⟨Nat.zero_le _, Nat.zero_le _⟩ (fun H locs hP hD hS => ?_)
    refine lv_iand hx hb dX0_oddTriplesAtPair_33 ?_
    refine lv_iconst (v := 1) hx hb dX0_oddTriplesAtPair_34 (by decide) ?_
    refine lv_iload_n hx hb dX0_oddTriplesAtPair_35 rfl (lv_at hl 2 rfl) ?_
    refine lv_ishl hx hb dX0_oddTriplesAtPair_36 ?_
    refine lv_iconst (v := 1) hx hb dX0_oddTriplesAtPair_37 (by decide) ?_
    refine lv_iload_n hx hb dX0_oddTriplesAtPair_38 rfl (lv_at hl 3 rfl) ?_
    refine lv_ishl hx hb dX0_oddTriplesAtPair_39 ?_
    refine lv_ior hx hb dX0_oddTriplesAtPair_40 ?_
    refine lv_iconst (v := -1) hx hb dX0_oddTriplesAtPair_41 (by decide) ?_
    refine lv_ixor hx hb dX0_oddTriplesAtPair_42 ?_
    refine lv_iand hx hb dX0_oddTriplesAtPair_43 ?_
    obtain ⟨q_10, hq_10, hM⟩ := on_bind hM
    refine on_callS0 (rest := []) (As := [.int ((v3_8 &&& q_9) &&& ((((1 : Int32) <<< (v1 &&& 31)) ||| ((1 : Int32) <<< (v2 &&& 31))) ^^^ (-1 : Int32)))]) (st1 := [.int q_10]) ⟨hx, hb, hml, hown, hts⟩ (k_J6_bitCount_0f7a4 ((v3_8 &&& q_9) &&& ((((1 : Int32) <<< (v1 &&& 31)) ||| ((1 : Int32) <<< (v2 &&& 31))) ^^^ (-1 : Int32))) q_10 hq_10) (va_cwS 1 hts gX0_oddTriplesAtPair_J6_bitCount_0f7a4 rfl rfl rfl hdJ6_bitCount_0f7a4 ⟨(Nat.le_of_ble_eq_true rfl), (Nat.le_of_ble_eq_true rfl)⟩) hK hN hP hD hS hA rfl hl.1 rfl (Nat.le_of_ble_eq_true rfl) rfl dX0_oddTriplesAtPair_44 ⟨Nat.zero_le _, Nat.zero_le _⟩ (fun H locs hP hS => ?_)
    have hM := Option.some.inj hM
    subst hM
    rw [← hQ]
    exact on_iret hx hb hr hlk hP hD hS dX0_oddTriplesAtPair_47
abbrev rm_X0_oddTriplesOfEachPair : Room := { frames := 2, cells := 0, slots := 0, locals := 45 }
set_option maxHeartbeats 4000000 in
set_option maxRecDepth 100000 in
theorem k_X0_oddTriplesOfEachPair {l : Launch} {D : va_G} {cI cJ cZ cS cA : ClassId} (h_t : Nat) (h_t_rows : Nat) (t_many : Int32) (t_rows : Nat → Int32)  (out : Int32) (hM : M_X0_oddTriplesOfEachPair t_many t_rows = some out) : on_Con l yX0_oddTriplesOfEachPair wsX0_oddTriplesOfEachPair rm_X0_oddTriplesOfEachPair [.ref h_t] D (on_T cI cJ cZ cS cA) [(h_t, .inr (0, [.int t_many, .ref h_t_rows])), (h_t_rows, .inl (cI, 7, .inl t_rows))] (some (.int out)) [(h_t, .inr (0, [.int t_many, .ref h_t_rows])), (h_t_rows, .inl (cI, 7, .inl t_rows))] := by
  unfold M_X0_oddTriplesOfEachPair at hM
  refine on_enter (cc := cX0_oddTriplesOfEachPair) (nL := 4) (rt := (some .int)) (own := RX0) (by decide +kernel) rfl rfl (Nat.le_of_ble_eq_true rfl) ?_
  intro p e s m below meth c A ls hx hb hml hr hlk hts hown hA hK hN H locs hP hD hS hl
  have hl : lv_has ls 4 [(0, .ref h_t)] := hl
  generalize hQ : MQ below (on_Q D (some (.int out)) [(h_t, .inr (0, [.int t_many, .ref h_t_rows])), (h_t_rows, .inl (cI, 7, .inl t_rows))] A) _ s 0 0 A = Q
  generalize hAr : List.toArray ([.ref h_t] : List Value) = args at hts hQ ⊢
  have w1 := hts (.fieldLink RX0 9 "OddNets$Net" "many" "I") (by decide +kernel)
  have w2 : ∀ w ∈ wsX00, w ∈ wsX0_oddTriplesOfEachPair := by decide +kernel
  have lp_21 : ∀ (v1 : Int32) (v2 : Int32), ∀ (n : Nat) (v3 : Int32) (x : Int32 ⊕ Unit), on_loop (fun (s : Int32) => B_X0_oddTriplesOfEachPair_21 v1 v2 t_many t_rows s) n v3 = some x → (∀ u, x = Sum.inr u → ∀ (H : Heap) (locs : List Loc), va_P D vwCl [(h_t, .inr (0, [.int t_many, .ref h_t_rows])), (h_t_rows, .inl (cI, 7, .inl t_rows))] H → va_D A [(h_t, .inr (0, [.int t_many, .ref h_t_rows])), (h_t_rows, .inl (cI, 7, .inl t_rows))] → va_S A s.heap H locs → ∀ ls : Array Slot, lv_has ls 4 [(0, .ref h_t), (1, .int v1), (2, .int v2)] → W p l e rm_X0_oddTriplesOfEachPair s m args below meth c H locs 0 0 Q (F0 m 48 ls [])) → (∀ o, x = Sum.inl o → o = out) → ∀ (H : Heap) (locs : List Loc), va_P D vwCl [(h_t, .inr (0, [.int t_many, .ref h_t_rows])), (h_t_rows, .inl (cI, 7, .inl t_rows))] H → va_D A [(h_t, .inr (0, [.int t_many, .ref h_t_rows])), (h_t_rows, .inl (cI, 7, .inl t_rows))] → va_S A s.heap H locs → ∀ ls : Array Slot, lv_has ls 4 [(0, .ref h_t), (1, .int v1), (2, .int v2), (3, .int v3)] → W p l e rm_X0_oddTriplesOfEachPair s m args below meth c H locs 0 0 Q (F0 m 21 ls []) := by
    intro v1 v2
    intro n
    induction n with
    | zero =>
      intro v3 x hL
      exact (on_loop0 hL).elim
    | succ n ih =>
      intro v3 x hL K1 K2 H locs hP hD hS ls hl
      obtain ⟨y, hM, hk⟩ := on_loopE hL
      have hM : B_X0_oddTriplesOfEachPair_21 v1 v2 t_many t_rows v3 = some y := hM
      unfold B_X0_oddTriplesOfEachPair_21 at hM
      refine lv_iload_n hx hb dX0_oddTriplesOfEachPair_21 rfl (lv_at hl 3 rfl) ?_
      refine lv_aload_n hx hb dX0_oddTriplesOfEachPair_22 rfl (lv_at hl 0 rfl) ?_
      refine va_get (D := D) (ci := 0) (v := .int t_many) (C := RX0) (T := TX0) (N := 2) hx hb hts w2 hown hK hP 0 rfl rfl 0 (by decide) w1 (fun _ h9 => h9) rfl dX0_oddTriplesOfEachPair_23 ?_
      refine lv_icmp_ge (tgt := 48) hx hb dX0_oddTriplesOfEachPair_26 (by decide) (fun c_4 => ?_) (fun c_4 => ?_)
      · have hM := on_pos c_4 hM
        have hk := on_nxR hM hk
        subst hk
        exact K1 _ rfl _ _ hP hD hS ls (lv_sub hl [0, 1, 2] rfl)
      · have hM := on_neg c_4 hM
        refine lv_aload_n hx hb dX0_oddTriplesOfEachPair_29 rfl (lv_at hl 0 rfl) ?_
        refine lv_iload_n hx hb dX0_oddTriplesOfEachPair_30 rfl (lv_at hl 2 rfl) ?_
        refine lv_iload_n hx hb dX0_oddTriplesOfEachPair_31 rfl (lv_at hl 3 rfl) ?_
        obtain ⟨q_5, hq_5, hM⟩ := on_bind hM
        refine on_callV (rest := []) (As := [.int v2, .int v3]) (st1 := [.int q_5]) (C := RX0) (ci := 0) (q0 := 0) (wc := [(h_t, .inr (0, [.int t_many, .ref h_t_rows])), (h_t_rows, .inl (cI, 7, .inl t_rows))]) (wr := []) (wc' := [(h_t, .inr (0, [.int t_many, .ref h_t_rows])), (h_t_rows, .inl (cI, 7, .inl t_rows))]) (wf := [(h_t, .inr (0, [.int t_many, .ref h_t_rows])), (h_t_rows, .inl (cI, 7, .inl t_rows))]) (rt := (some (.int q_5))) ⟨hx, hb, hml, hown, hts⟩ (k_X0_oddTriplesAtPair h_t h_t_rows t_many t_rows v2 v3 q_5 hq_5) (cwV 2 hts gX0_oddTriplesOfEachPair_X0_oddTriplesAtPair rfl rfl rfl ⟨rfl, hdX0_oddTriplesAtPair⟩ ⟨(Nat.le_of_ble_eq_true rfl), (Nat.le_of_ble_eq_true rfl)⟩) hK hN hP hD hS hA [0, 1] [] [0, 1] rfl rfl rfl rfl (by decide) rfl rfl rfl rfl rfl rfl hl.1 rfl (Nat.le_of_ble_eq_true rfl) rfl dX0_oddTriplesOfEachPair_32 ⟨Nat.zero_le _, Nat.zero_le _⟩ (fun H locs hP hD hS => ?_)
        refine lv_iload_n hx hb dX0_oddTriplesOfEachPair_35 rfl (lv_at hl 1 rfl) ?_
        refine lv_icmp_eq (tgt := 42) hx hb dX0_oddTriplesOfEachPair_36 (by decide) (fun c_6 => ?_) (fun c_6 => ?_)
        · have hM := on_pos c_6 hM
          obtain ⟨v3_7, ev3_7⟩ : ∃ z : Int32, z = v3 + 1 := ⟨_, rfl⟩
          have hM := on_letE ev3_7 hM
          refine lv_iinc (v := v3_7) (lv' := [(3, .int v3_7), (0, .ref h_t), (1, .int v1), (2, .int v2)]) hx hb dX0_oddTriplesOfEachPair_42 hl (k := 3) rfl (by rw [ev3_7]; rfl) (by decide) rfl (fun ls hl => ?_)
          refine lv_goto (tgt := 21) hx hb dX0_oddTriplesOfEachPair_45 (by decide) ?_
          have hk := on_nxL hM hk
          exact ih v3_7 _ hk K1 K2 _ _ hP hD hS ls (lv_sub hl [1, 2, 3, 0] rfl)
        · have hM := on_neg c_6 hM
          refine lv_bipush (v := -6) hx hb dX0_oddTriplesOfEachPair_39 (by decide) ?_
          have hk := on_nxR hM hk
          subst hk
          have ho := K2 _ rfl
          subst ho
          rw [← hQ]
          exact on_iret hx hb hr hlk hP hD hS dX0_oddTriplesOfEachPair_41
  have lp_9 : ∀ (v1 : Int32), ∀ (n : Nat) (v2 : Int32) (x : Int32 ⊕ Unit), on_loop (fun (s : Int32) => B_X0_oddTriplesOfEachPair_9 v1 t_many t_rows s) n v2 = some x → (∀ u, x = Sum.inr u → ∀ (H : Heap) (locs : List Loc), va_P D vwCl [(h_t, .inr (0, [.int t_many, .ref h_t_rows])), (h_t_rows, .inl (cI, 7, .inl t_rows))] H → va_D A [(h_t, .inr (0, [.int t_many, .ref h_t_rows])), (h_t_rows, .inl (cI, 7, .inl t_rows))] → va_S A s.heap H locs → ∀ ls : Array Slot, lv_has ls 4 [(1, .int v1)] → W p l e rm_X0_oddTriplesOfEachPair s m args below meth c H locs 0 0 Q (F0 m 54 ls [])) → (∀ o, x = Sum.inl o → o = out) → ∀ (H : Heap) (locs : List Loc), va_P D vwCl [(h_t, .inr (0, [.int t_many, .ref h_t_rows])), (h_t_rows, .inl (cI, 7, .inl t_rows))] H → va_D A [(h_t, .inr (0, [.int t_many, .ref h_t_rows])), (h_t_rows, .inl (cI, 7, .inl t_rows))] → va_S A s.heap H locs → ∀ ls : Array Slot, lv_has ls 4 [(0, .ref h_t), (1, .int v1), (2, .int v2)] → W p l e rm_X0_oddTriplesOfEachPair s m args below meth c H locs 0 0 Q (F0 m 9 ls []) := by
    intro v1
    intro n
    induction n with
    | zero =>
      intro v2 x hL
      exact (on_loop0 hL).elim
    | succ n ih =>
      intro v2 x hL K1 K2 H locs hP hD hS ls hl
      obtain ⟨y, hM, hk⟩ := on_loopE hL
      have hM : B_X0_oddTriplesOfEachPair_9 v1 t_many t_rows v2 = some y := hM
      unfold B_X0_oddTriplesOfEachPair_9 at hM
      refine lv_iload_n hx hb dX0_oddTriplesOfEachPair_9 rfl (lv_at hl 2 rfl) ?_
      refine lv_aload_n hx hb dX0_oddTriplesOfEachPair_10 rfl (lv_at hl 0 rfl) ?_
      refine va_get (D := D) (ci := 0) (v := .int t_many) (C := RX0) (T := TX0) (N := 2) hx hb hts w2 hown hK hP 0 rfl rfl 0 (by decide) w1 (fun _ h9 => h9) rfl dX0_oddTriplesOfEachPair_11 ?_
      refine lv_icmp_ge (tgt := 54) hx hb dX0_oddTriplesOfEachPair_14 (by decide) (fun c_2 => ?_) (fun c_2 => ?_)
      · have hM := on_pos c_2 hM
        have hk := on_nxR hM hk
        subst hk
        exact K1 _ rfl _ _ hP hD hS ls (lv_sub hl [1] rfl)
      · have hM := on_neg c_2 hM
        refine lv_iload_n hx hb dX0_oddTriplesOfEachPair_17 rfl (lv_at hl 2 rfl) ?_
        refine lv_iconst (v := 1) hx hb dX0_oddTriplesOfEachPair_18 (by decide) ?_
        refine lv_iadd hx hb dX0_oddTriplesOfEachPair_19 ?_
        refine lv_topi (fun v3_3 ev3_3 => ?_)
        have hM := on_letE ev3_3 hM
        refine lv_istore_n (lv' := [(3, .int v3_3), (0, .ref h_t), (1, .int v1), (2, .int v2)]) hx hb dX0_oddTriplesOfEachPair_20 rfl hl (by decide) rfl (fun ls hl => ?_)
        obtain ⟨q_8, hq_8, hM⟩ := on_bind hM
        refine lp_21 v1 v2 on_F v3_3 q_8 hq_8 (fun u_9 hv H locs hP hD hS ls hl => ?_) (fun o ho => ?_) H locs hP hD hS ls (lv_sub hl [1, 2, 3, 0] rfl)
        · subst hv
          have hM := on_elR hM
          obtain ⟨v2_10, ev2_10⟩ : ∃ z : Int32, z = v2 + 1 := ⟨_, rfl⟩
          have hM := on_letE ev2_10 hM
          refine lv_iinc (v := v2_10) (lv' := [(2, .int v2_10), (0, .ref h_t), (1, .int v1)]) hx hb dX0_oddTriplesOfEachPair_48 hl (k := 2) rfl (by rw [ev2_10]; rfl) (by decide) rfl (fun ls hl => ?_)
          refine lv_goto (tgt := 9) hx hb dX0_oddTriplesOfEachPair_51 (by decide) ?_
          have hk := on_nxL hM hk
          exact ih v2_10 _ hk K1 K2 _ _ hP hD hS ls (lv_sub hl [1, 2, 0] rfl)
        · subst ho
          have hM := on_elL hM
          have hk := on_nxR hM hk
          subst hk
          exact K2 _ rfl
  refine lv_aload_n hx hb dX0_oddTriplesOfEachPair_0 rfl (lv_at hl 0 rfl) ?_
  refine lv_iconst (v := 0) hx hb dX0_oddTriplesOfEachPair_1 (by decide) ?_
  refine lv_iconst (v := 1) hx hb dX0_oddTriplesOfEachPair_2 (by decide) ?_
  obtain ⟨q_1, hq_1, hM⟩ := on_bind hM
  refine on_callV (rest := []) (As := [.int (0 : Int32), .int (1 : Int32)]) (st1 := [.int q_1]) (C := RX0) (ci := 0) (q0 := 0) (wc := [(h_t, .inr (0, [.int t_many, .ref h_t_rows])), (h_t_rows, .inl (cI, 7, .inl t_rows))]) (wr := []) (wc' := [(h_t, .inr (0, [.int t_many, .ref h_t_rows])), (h_t_rows, .inl (cI, 7, .inl t_rows))]) (wf := [(h_t, .inr (0, [.int t_many, .ref h_t_rows])), (h_t_rows, .inl (cI, 7, .inl t_rows))]) (rt := (some (.int q_1))) ⟨hx, hb, hml, hown, hts⟩ (k_X0_oddTriplesAtPair h_t h_t_rows t_many t_rows (0 : Int32) (1 : Int32) q_1 hq_1) (cwV 2 hts gX0_oddTriplesOfEachPair_X0_oddTriplesAtPair rfl rfl rfl ⟨rfl, hdX0_oddTriplesAtPair⟩ ⟨(Nat.le_of_ble_eq_true rfl), (Nat.le_of_ble_eq_true rfl)⟩) hK hN hP hD hS hA [0, 1] [] [0, 1] rfl rfl rfl rfl (by decide) rfl rfl rfl rfl rfl rfl hl.1 rfl (Nat.le_of_ble_eq_true rfl) rfl dX0_oddTriplesOfEachPair_3 ⟨Nat.zero_le _, Nat.zero_le _⟩ (fun H locs hP hD hS => ?_)
  refine lv_istore_n (lv' := [(1, .int q_1), (0, .ref h_t)]) hx hb dX0_oddTriplesOfEachPair_6 rfl hl (by decide) rfl (fun ls hl => ?_)
  refine lv_iconst (v := 0) hx hb dX0_oddTriplesOfEachPair_7 (by decide) ?_
  refine lv_istore_n (lv' := [(2, .int (0 : Int32)), (1, .int q_1), (0, .ref h_t)]) hx hb dX0_oddTriplesOfEachPair_8 rfl hl (by decide) rfl (fun ls hl => ?_)
  obtain ⟨q_11, hq_11, hM⟩ := on_bind hM
  refine lp_9 q_1 on_F (0 : Int32) q_11 hq_11 (fun u_12 hv H locs hP hD hS ls hl => ?_) (fun o ho => ?_) H locs hP hD hS ls (lv_sub hl [2, 1, 0] rfl)
  · subst hv
    have hM := on_elR hM
    refine lv_iload_n hx hb dX0_oddTriplesOfEachPair_54 rfl (lv_at hl 0 rfl) ?_
    have hM := Option.some.inj hM
    subst hM
    rw [← hQ]
    exact on_iret hx hb hr hlk hP hD hS dX0_oddTriplesOfEachPair_55
  · subst ho
    have hM := on_elL hM
    exact Option.some.inj hM
abbrev rm_X0_oddTriplesAtNode : Room := { frames := 2, cells := 0, slots := 0, locals := 45 }
set_option maxHeartbeats 4000000 in
set_option maxRecDepth 100000 in
theorem k_X0_oddTriplesAtNode {l : Launch} {D : va_G} {cI cJ cZ cS cA : ClassId} (h_t : Nat) (h_t_rows : Nat) (t_many : Int32) (t_rows : Nat → Int32) (v1 : Int32) (out : Int32) (hM : M_X0_oddTriplesAtNode v1 t_many t_rows = some out) : on_Con l yX0_oddTriplesAtNode wsX0_oddTriplesAtNode rm_X0_oddTriplesAtNode [.ref h_t, .int v1] D (on_T cI cJ cZ cS cA) [(h_t, .inr (0, [.int t_many, .ref h_t_rows])), (h_t_rows, .inl (cI, 7, .inl t_rows))] (some (.int out)) [(h_t, .inr (0, [.int t_many, .ref h_t_rows])), (h_t_rows, .inl (cI, 7, .inl t_rows))] := by
  unfold M_X0_oddTriplesAtNode at hM
  refine on_enter (cc := cX0_oddTriplesAtNode) (nL := 4) (rt := (some .int)) (own := RX0) (by decide +kernel) rfl rfl (Nat.le_of_ble_eq_true rfl) ?_
  intro p e s m below meth c A ls hx hb hml hr hlk hts hown hA hK hN H locs hP hD hS hl
  have hl : lv_has ls 4 [(0, .ref h_t), (1, .int v1)] := hl
  generalize hQ : MQ below (on_Q D (some (.int out)) [(h_t, .inr (0, [.int t_many, .ref h_t_rows])), (h_t_rows, .inl (cI, 7, .inl t_rows))] A) _ s 0 0 A = Q
  generalize hAr : List.toArray ([.ref h_t, .int v1] : List Value) = args at hts hQ ⊢
  have w1 := hts (.fieldLink RX0 9 "OddNets$Net" "many" "I") (by decide +kernel)
  have w2 : ∀ w ∈ wsX00, w ∈ wsX0_oddTriplesAtNode := by decide +kernel
  have lp_4 : ∀ (v1 : Int32), ∀ (n : Nat) (v2 : Int32) (v3 : Int32) (x : Int32), on_loop (fun (s : Int32 × Int32) => B_X0_oddTriplesAtNode_4 v1 t_many t_rows s.1 s.2) n (v2, v3) = some x → (∀ (H : Heap) (locs : List Loc), va_P D vwCl [(h_t, .inr (0, [.int t_many, .ref h_t_rows])), (h_t_rows, .inl (cI, 7, .inl t_rows))] H → va_D A [(h_t, .inr (0, [.int t_many, .ref h_t_rows])), (h_t_rows, .inl (cI, 7, .inl t_rows))] → va_S A s.heap H locs → ∀ ls : Array Slot, lv_has ls 4 [(2, .int x)] → W p l e rm_X0_oddTriplesAtNode s m args below meth c H locs 0 0 Q (F0 m 32 ls [])) → ∀ (H : Heap) (locs : List Loc), va_P D vwCl [(h_t, .inr (0, [.int t_many, .ref h_t_rows])), (h_t_rows, .inl (cI, 7, .inl t_rows))] H → va_D A [(h_t, .inr (0, [.int t_many, .ref h_t_rows])), (h_t_rows, .inl (cI, 7, .inl t_rows))] → va_S A s.heap H locs → ∀ ls : Array Slot, lv_has ls 4 [(0, .ref h_t), (1, .int v1), (2, .int v2), (3, .int v3)] → W p l e rm_X0_oddTriplesAtNode s m args below meth c H locs 0 0 Q (F0 m 4 ls []) := by
    intro v1
    intro n
    induction n with
    | zero =>
      intro v2 v3 x hL
      exact (on_loop0 hL).elim
    | succ n ih =>
      intro v2 v3 x hL K1 H locs hP hD hS ls hl
      obtain ⟨y, hM, hk⟩ := on_loopE hL
      have hM : B_X0_oddTriplesAtNode_4 v1 t_many t_rows v2 v3 = some y := hM
      unfold B_X0_oddTriplesAtNode_4 at hM
      refine lv_iload_n hx hb dX0_oddTriplesAtNode_4 rfl (lv_at hl 3 rfl) ?_
      refine lv_aload_n hx hb dX0_oddTriplesAtNode_5 rfl (lv_at hl 0 rfl) ?_
      refine va_get (D := D) (ci := 0) (v := .int t_many) (C := RX0) (T := TX0) (N := 2) hx hb hts w2 hown hK hP 0 rfl rfl 0 (by decide) w1 (fun _ h9 => h9) rfl dX0_oddTriplesAtNode_6 ?_
      refine lv_icmp_ge (tgt := 32) hx hb dX0_oddTriplesAtNode_9 (by decide) (fun c_1 => ?_) (fun c_1 => ?_)
      · have hM := on_pos c_1 hM
        have hk := on_nxR hM hk
        subst hk
        exact K1 _ _ hP hD hS ls (lv_sub hl [2] rfl)
      · have hM := on_neg c_1 hM
        refine lv_iload_n hx hb dX0_oddTriplesAtNode_12 rfl (lv_at hl 3 rfl) ?_
        refine lv_iload_n hx hb dX0_oddTriplesAtNode_13 rfl (lv_at hl 1 rfl) ?_
        refine lv_icmp_eq (tgt := 26) hx hb dX0_oddTriplesAtNode_14 (by decide) (fun c_2 => ?_) (fun c_2 => ?_)
        · have hM := on_pos c_2 hM
          obtain ⟨v3_3, ev3_3⟩ : ∃ z : Int32, z = v3 + 1 := ⟨_, rfl⟩
          have hM := on_letE ev3_3 hM
          refine lv_iinc (v := v3_3) (lv' := [(3, .int v3_3), (0, .ref h_t), (1, .int v1), (2, .int v2)]) hx hb dX0_oddTriplesAtNode_26 hl (k := 3) rfl (by rw [ev3_3]; rfl) (by decide) rfl (fun ls hl => ?_)
          refine lv_goto (tgt := 4) hx hb dX0_oddTriplesAtNode_29 (by decide) ?_
          have hk := on_nxL hM hk
          exact ih v2 v3_3 _ hk K1 _ _ hP hD hS ls (lv_sub hl [1, 2, 3, 0] rfl)
        · have hM := on_neg c_2 hM
          refine lv_iload_n hx hb dX0_oddTriplesAtNode_17 rfl (lv_at hl 2 rfl) ?_
          refine lv_aload_n hx hb dX0_oddTriplesAtNode_18 rfl (lv_at hl 0 rfl) ?_
          refine lv_iload_n hx hb dX0_oddTriplesAtNode_19 rfl (lv_at hl 1 rfl) ?_
          refine lv_iload_n hx hb dX0_oddTriplesAtNode_20 rfl (lv_at hl 3 rfl) ?_
          obtain ⟨q_4, hq_4, hM⟩ := on_bind hM
          refine on_callV (rest := [.int v2]) (As := [.int v1, .int v3]) (st1 := [.int q_4, .int v2]) (C := RX0) (ci := 0) (q0 := 0) (wc := [(h_t, .inr (0, [.int t_many, .ref h_t_rows])), (h_t_rows, .inl (cI, 7, .inl t_rows))]) (wr := []) (wc' := [(h_t, .inr (0, [.int t_many, .ref h_t_rows])), (h_t_rows, .inl (cI, 7, .inl t_rows))]) (wf := [(h_t, .inr (0, [.int t_many, .ref h_t_rows])), (h_t_rows, .inl (cI, 7, .inl t_rows))]) (rt := (some (.int q_4))) ⟨hx, hb, hml, hown, hts⟩ (k_X0_oddTriplesAtPair h_t h_t_rows t_many t_rows v1 v3 q_4 hq_4) (cwV 2 hts gX0_oddTriplesAtNode_X0_oddTriplesAtPair rfl rfl rfl ⟨rfl, hdX0_oddTriplesAtPair⟩ ⟨(Nat.le_of_ble_eq_true rfl), (Nat.le_of_ble_eq_true rfl)⟩) hK hN hP hD hS hA [0, 1] [] [0, 1] rfl rfl rfl rfl (by decide) rfl rfl rfl rfl rfl rfl hl.1 rfl (Nat.le_of_ble_eq_true rfl) rfl dX0_oddTriplesAtNode_21 ⟨Nat.zero_le _, Nat.zero_le _⟩ (fun H locs hP hD hS => ?_)
          refine lv_iadd hx hb dX0_oddTriplesAtNode_24 ?_
          refine lv_topi (fun v2_5 ev2_5 => ?_)
          have hM := on_letE ev2_5 hM
          refine lv_istore_n (lv' := [(2, .int v2_5), (0, .ref h_t), (1, .int v1), (3, .int v3)]) hx hb dX0_oddTriplesAtNode_25 rfl hl (by decide) rfl (fun ls hl => ?_)
          obtain ⟨v3_6, ev3_6⟩ : ∃ z : Int32, z = v3 + 1 := ⟨_, rfl⟩
          have hM := on_letE ev3_6 hM
          refine lv_iinc (v := v3_6) (lv' := [(3, .int v3_6), (2, .int v2_5), (0, .ref h_t), (1, .int v1)]) hx hb dX0_oddTriplesAtNode_26 hl (k := 3) rfl (by rw [ev3_6]; rfl) (by decide) rfl (fun ls hl => ?_)
          refine lv_goto (tgt := 4) hx hb dX0_oddTriplesAtNode_29 (by decide) ?_
          have hk := on_nxL hM hk
          exact ih v2_5 v3_6 _ hk K1 _ _ hP hD hS ls (lv_sub hl [2, 3, 1, 0] rfl)
  refine lv_iconst (v := 0) hx hb dX0_oddTriplesAtNode_0 (by decide) ?_
  refine lv_istore_n (lv' := [(2, .int (0 : Int32)), (0, .ref h_t), (1, .int v1)]) hx hb dX0_oddTriplesAtNode_1 rfl hl (by decide) rfl (fun ls hl => ?_)
  refine lv_iconst (v := 0) hx hb dX0_oddTriplesAtNode_2 (by decide) ?_
  refine lv_istore_n (lv' := [(3, .int (0 : Int32)), (2, .int (0 : Int32)), (0, .ref h_t), (1, .int v1)]) hx hb dX0_oddTriplesAtNode_3 rfl hl (by decide) rfl (fun ls hl => ?_)
  obtain ⟨q_7, hq_7, hM⟩ := on_bind hM
  refine lp_4 v1 on_F (0 : Int32) (0 : Int32) q_7 hq_7 (fun H locs hP hD hS ls hl => ?_) H locs hP hD hS ls (lv_sub hl [2, 3, 1, 0] rfl)
  refine lv_iload_n hx hb dX0_oddTriplesAtNode_32 rfl (lv_at hl 0 rfl) ?_
  refine lv_iconst (v := 2) hx hb dX0_oddTriplesAtNode_33 (by decide) ?_
  refine lv_idiv hx hb dX0_oddTriplesAtNode_34 (by decide) ?_
  have hM := Option.some.inj hM
  subst hM
  rw [← hQ]
  exact on_iret hx hb hr hlk hP hD hS dX0_oddTriplesAtNode_35
abbrev rm_X0_oddTriples : Room := { frames := 3, cells := 0, slots := 0, locals := 68 }
set_option maxHeartbeats 4000000 in
set_option maxRecDepth 100000 in
theorem k_X0_oddTriples {l : Launch} {D : va_G} {cI cJ cZ cS cA : ClassId} (h_t : Nat) (h_t_rows : Nat) (t_many : Int32) (t_rows : Nat → Int32)  (out : Int32) (hM : M_X0_oddTriples t_many t_rows = some out) : on_Con l yX0_oddTriples wsX0_oddTriples rm_X0_oddTriples [.ref h_t] D (on_T cI cJ cZ cS cA) [(h_t, .inr (0, [.int t_many, .ref h_t_rows])), (h_t_rows, .inl (cI, 7, .inl t_rows))] (some (.int out)) [(h_t, .inr (0, [.int t_many, .ref h_t_rows])), (h_t_rows, .inl (cI, 7, .inl t_rows))] := by
  unfold M_X0_oddTriples at hM
  refine on_enter (cc := cX0_oddTriples) (nL := 3) (rt := (some .int)) (own := RX0) (by decide +kernel) rfl rfl (Nat.le_of_ble_eq_true rfl) ?_
  intro p e s m below meth c A ls hx hb hml hr hlk hts hown hA hK hN H locs hP hD hS hl
  have hl : lv_has ls 3 [(0, .ref h_t)] := hl
  generalize hQ : MQ below (on_Q D (some (.int out)) [(h_t, .inr (0, [.int t_many, .ref h_t_rows])), (h_t_rows, .inl (cI, 7, .inl t_rows))] A) _ s 0 0 A = Q
  generalize hAr : List.toArray ([.ref h_t] : List Value) = args at hts hQ ⊢
  have w1 := hts (.fieldLink RX0 9 "OddNets$Net" "many" "I") (by decide +kernel)
  have w2 : ∀ w ∈ wsX00, w ∈ wsX0_oddTriples := by decide +kernel
  have lp_4 : ∀ (n : Nat) (v1 : Int32) (v2 : Int32) (x : Int32), on_loop (fun (s : Int32 × Int32) => B_X0_oddTriples_4 t_many t_rows s.1 s.2) n (v1, v2) = some x → (∀ (H : Heap) (locs : List Loc), va_P D vwCl [(h_t, .inr (0, [.int t_many, .ref h_t_rows])), (h_t_rows, .inl (cI, 7, .inl t_rows))] H → va_D A [(h_t, .inr (0, [.int t_many, .ref h_t_rows])), (h_t_rows, .inl (cI, 7, .inl t_rows))] → va_S A s.heap H locs → ∀ ls : Array Slot, lv_has ls 3 [(1, .int x)] → W p l e rm_X0_oddTriples s m args below meth c H locs 0 0 Q (F0 m 26 ls [])) → ∀ (H : Heap) (locs : List Loc), va_P D vwCl [(h_t, .inr (0, [.int t_many, .ref h_t_rows])), (h_t_rows, .inl (cI, 7, .inl t_rows))] H → va_D A [(h_t, .inr (0, [.int t_many, .ref h_t_rows])), (h_t_rows, .inl (cI, 7, .inl t_rows))] → va_S A s.heap H locs → ∀ ls : Array Slot, lv_has ls 3 [(0, .ref h_t), (1, .int v1), (2, .int v2)] → W p l e rm_X0_oddTriples s m args below meth c H locs 0 0 Q (F0 m 4 ls []) := by
    intro n
    induction n with
    | zero =>
      intro v1 v2 x hL
      exact (on_loop0 hL).elim
    | succ n ih =>
      intro v1 v2 x hL K1 H locs hP hD hS ls hl
      obtain ⟨y, hM, hk⟩ := on_loopE hL
      have hM : B_X0_oddTriples_4 t_many t_rows v1 v2 = some y := hM
      unfold B_X0_oddTriples_4 at hM
      refine lv_iload_n hx hb dX0_oddTriples_4 rfl (lv_at hl 2 rfl) ?_
      refine lv_aload_n hx hb dX0_oddTriples_5 rfl (lv_at hl 0 rfl) ?_
      refine va_get (D := D) (ci := 0) (v := .int t_many) (C := RX0) (T := TX0) (N := 2) hx hb hts w2 hown hK hP 0 rfl rfl 0 (by decide) w1 (fun _ h9 => h9) rfl dX0_oddTriples_6 ?_
      refine lv_icmp_ge (tgt := 26) hx hb dX0_oddTriples_9 (by decide) (fun c_1 => ?_) (fun c_1 => ?_)
      · have hM := on_pos c_1 hM
        have hk := on_nxR hM hk
        subst hk
        exact K1 _ _ hP hD hS ls (lv_sub hl [1] rfl)
      · have hM := on_neg c_1 hM
        refine lv_iload_n hx hb dX0_oddTriples_12 rfl (lv_at hl 1 rfl) ?_
        refine lv_aload_n hx hb dX0_oddTriples_13 rfl (lv_at hl 0 rfl) ?_
        refine lv_iload_n hx hb dX0_oddTriples_14 rfl (lv_at hl 2 rfl) ?_
        obtain ⟨q_2, hq_2, hM⟩ := on_bind hM
        refine on_callV (rest := [.int v1]) (As := [.int v2]) (st1 := [.int q_2, .int v1]) (C := RX0) (ci := 0) (q0 := 0) (wc := [(h_t, .inr (0, [.int t_many, .ref h_t_rows])), (h_t_rows, .inl (cI, 7, .inl t_rows))]) (wr := []) (wc' := [(h_t, .inr (0, [.int t_many, .ref h_t_rows])), (h_t_rows, .inl (cI, 7, .inl t_rows))]) (wf := [(h_t, .inr (0, [.int t_many, .ref h_t_rows])), (h_t_rows, .inl (cI, 7, .inl t_rows))]) (rt := (some (.int q_2))) ⟨hx, hb, hml, hown, hts⟩ (k_X0_oddTriplesAtNode h_t h_t_rows t_many t_rows v2 q_2 hq_2) (cwV 1 hts gX0_oddTriples_X0_oddTriplesAtNode rfl rfl rfl ⟨rfl, hdX0_oddTriplesAtNode⟩ ⟨(Nat.le_of_ble_eq_true rfl), (Nat.le_of_ble_eq_true rfl)⟩) hK hN hP hD hS hA [0, 1] [] [0, 1] rfl rfl rfl rfl (by decide) rfl rfl rfl rfl rfl rfl hl.1 rfl (Nat.le_of_ble_eq_true rfl) rfl dX0_oddTriples_15 ⟨Nat.zero_le _, Nat.zero_le _⟩ (fun H locs hP hD hS => ?_)
        refine lv_iadd hx hb dX0_oddTriples_18 ?_
        refine lv_topi (fun v1_3 ev1_3 => ?_)
        have hM := on_letE ev1_3 hM
        refine lv_istore_n (lv' := [(1, .int v1_3), (0, .ref h_t), (2, .int v2)]) hx hb dX0_oddTriples_19 rfl hl (by decide) rfl (fun ls hl => ?_)
        obtain ⟨v2_4, ev2_4⟩ : ∃ z : Int32, z = v2 + 1 := ⟨_, rfl⟩
        have hM := on_letE ev2_4 hM
        refine lv_iinc (v := v2_4) (lv' := [(2, .int v2_4), (1, .int v1_3), (0, .ref h_t)]) hx hb dX0_oddTriples_20 hl (k := 2) rfl (by rw [ev2_4]; rfl) (by decide) rfl (fun ls hl => ?_)
        refine lv_goto (tgt := 4) hx hb dX0_oddTriples_23 (by decide) ?_
        have hk := on_nxL hM hk
        exact ih v1_3 v2_4 _ hk K1 _ _ hP hD hS ls (lv_sub hl [2, 1, 0] rfl)
  refine lv_iconst (v := 0) hx hb dX0_oddTriples_0 (by decide) ?_
  refine lv_istore_n (lv' := [(1, .int (0 : Int32)), (0, .ref h_t)]) hx hb dX0_oddTriples_1 rfl hl (by decide) rfl (fun ls hl => ?_)
  refine lv_iconst (v := 0) hx hb dX0_oddTriples_2 (by decide) ?_
  refine lv_istore_n (lv' := [(2, .int (0 : Int32)), (1, .int (0 : Int32)), (0, .ref h_t)]) hx hb dX0_oddTriples_3 rfl hl (by decide) rfl (fun ls hl => ?_)
  obtain ⟨q_5, hq_5, hM⟩ := on_bind hM
  refine lp_4  on_F (0 : Int32) (0 : Int32) q_5 hq_5 (fun H locs hP hD hS ls hl => ?_) H locs hP hD hS ls (lv_sub hl [2, 1, 0] rfl)
  refine lv_iload_n hx hb dX0_oddTriples_26 rfl (lv_at hl 0 rfl) ?_
  refine lv_iconst (v := 3) hx hb dX0_oddTriples_27 (by decide) ?_
  refine lv_idiv hx hb dX0_oddTriples_28 (by decide) ?_
  have hM := Option.some.inj hM
  subst hM
  rw [← hQ]
  exact on_iret hx hb hr hlk hP hD hS dX0_oddTriples_29
abbrev rm_X5_of : Room := { frames := 4, cells := 0, slots := 0, locals := 90 }
set_option maxHeartbeats 4000000 in
set_option maxRecDepth 100000 in
theorem k_X5_of {l : Launch} {D : va_G} {cI cJ cZ cS cA : ClassId} (h_t : Nat) (h_t_now : Nat) (h_t_images : Nat) (h_t_pad : Nat) (h_t_net : Nat) (h_t_second : Nat) (h_t_renumbering : Nat) (h_t_table : Nat) (h_t_marks : Nat) (h_t_now_numbers : Nat) (h_t_net_rows : Nat) (t_now_many : Int32) (t_now_numbers : Nat → Int32) (t_net_many : Int32) (t_net_rows : Nat → Int32) (v1 : Int32) (v2 : Int32) (out : Int32 × Int32 × (Nat → Int32)) (hM : M_X5_of v1 v2 t_now_many t_now_numbers t_net_many t_net_rows = some out) : on_Con l yX5_of wsX5_of rm_X5_of [.ref h_t, .int v1, .int v2] D (on_T cI cJ cZ cS cA) [(h_t, .inr (5, [.ref h_t_now, .ref h_t_images, .ref h_t_pad, .ref h_t_net, .ref h_t_second, .ref h_t_renumbering, .ref h_t_table, .ref h_t_marks])), (h_t_now, .inr (3, [.int t_now_many, .ref h_t_now_numbers])), (h_t_now_numbers, .inl (cI, 3, .inl t_now_numbers)), (h_t_net, .inr (0, [.int t_net_many, .ref h_t_net_rows])), (h_t_net_rows, .inl (cI, 7, .inl t_net_rows))] (some (.int out.1)) [(h_t, .inr (5, [.ref h_t_now, .ref h_t_images, .ref h_t_pad, .ref h_t_net, .ref h_t_second, .ref h_t_renumbering, .ref h_t_table, .ref h_t_marks])), (h_t_now, .inr (3, [.int t_now_many, .ref h_t_now_numbers])), (h_t_now_numbers, .inl (cI, 3, .inl t_now_numbers)), (h_t_net, .inr (0, [.int out.2.1, .ref h_t_net_rows])), (h_t_net_rows, .inl (cI, 7, .inl out.2.2))] := by
  unfold M_X5_of at hM
  refine on_enter (cc := cX5_of) (nL := 3) (rt := (some .int)) (own := RX5) (by decide +kernel) rfl rfl (Nat.le_of_ble_eq_true rfl) ?_
  intro p e s m below meth c A ls hx hb hml hr hlk hts hown hA hK hN H locs hP hD hS hl
  have hl : lv_has ls 3 [(0, .ref h_t), (1, .int v1), (2, .int v2)] := hl
  generalize hQ : MQ below (on_Q D (some (.int out.1)) [(h_t, .inr (5, [.ref h_t_now, .ref h_t_images, .ref h_t_pad, .ref h_t_net, .ref h_t_second, .ref h_t_renumbering, .ref h_t_table, .ref h_t_marks])), (h_t_now, .inr (3, [.int t_now_many, .ref h_t_now_numbers])), (h_t_now_numbers, .inl (cI, 3, .inl t_now_numbers)), (h_t_net, .inr (0, [.int out.2.1, .ref h_t_net_rows])), (h_t_net_rows, .inl (cI, 7, .inl out.2.2))] A) _ s 0 0 A = Q
  generalize hAr : List.toArray ([.ref h_t, .int v1, .int v2] : List Value) = args at hts hQ ⊢
  have w1 := hts (.fieldLink RX5 30 "OddNets" "net" "LOddNets$Net;") (by decide +kernel)
  have w2 : ∀ w ∈ wsX50, w ∈ wsX5_of := by decide +kernel
  have w3 := hts (.fieldLink RX5 10 "OddNets" "now" "LOddNets$Shelf;") (by decide +kernel)
  have w4 : ∀ w ∈ wsX30, w ∈ wsX5_of := by decide +kernel
  have w5 := hts (.initialized RX0) (by decide +kernel)
  have w6 := hts (.instanceMethod yX0_joinedPairs) (by decide +kernel)
  have w7 := hts (.selects RX0 yX0_joinedPairs yX0_joinedPairs) (by decide +kernel)
  have w8 := hts (.instanceMethod yX0_oddTriples) (by decide +kernel)
  have w9 := hts (.selects RX0 yX0_oddTriples yX0_oddTriples) (by decide +kernel)
  have w10 := hts (.instanceMethod yX0_oddTriplesOfEachPair) (by decide +kernel)
  have w11 := hts (.selects RX0 yX0_oddTriplesOfEachPair yX0_oddTriplesOfEachPair) (by decide +kernel)
  have w12 := hts (.instanceMethod yX0_oddDegrees) (by decide +kernel)
  have w13 := hts (.selects RX0 yX0_oddDegrees yX0_oddDegrees) (by decide +kernel)
  refine lv_iload_n hx hb dX5_of_0 rfl (lv_at hl 1 rfl) ?_
  obtain ⟨q_1, hq_1, hM⟩ := on_bind hM
  refine on_callS0 (rest := []) (As := [.int v1]) (st1 := [.int q_1]) ⟨hx, hb, hml, hown, hts⟩ (k_X5_isSlot v1 q_1 hq_1) (va_cwS 1 hts gX5_of_X5_isSlot rfl rfl rfl hdX5_isSlot ⟨(Nat.le_of_ble_eq_true rfl), (Nat.le_of_ble_eq_true rfl)⟩) hK hN hP hD hS hA rfl hl.1 rfl (Nat.le_of_ble_eq_true rfl) rfl dX5_of_1 ⟨Nat.zero_le _, Nat.zero_le _⟩ (fun H locs hP hS => ?_)
  refine lv_if_ne (tgt := 9) hx hb dX5_of_4 (by decide) (fun c_2 => ?_) (fun c_2 => ?_)
  · have hM := on_neg c_2 hM
    refine lv_aload_n hx hb dX5_of_9 rfl (lv_at hl 0 rfl) ?_
    refine lv_aload_n hx hb dX5_of_10 rfl (lv_at hl 0 rfl) ?_
    refine va_get (D := D) (ci := 5) (v := .ref h_t_net) (C := RX5) (T := TX5) (N := 8) hx hb hts w2 hown hK hP 0 rfl rfl 3 (by decide) w1 (fun _ h9 => h9) rfl dX5_of_11 ?_
    refine lv_iload_n hx hb dX5_of_14 rfl (lv_at hl 1 rfl) ?_
    obtain ⟨q_3, hq_3, hM⟩ := on_bind hM
    refine on_callV (rest := []) (As := [.ref h_t_net, .int v1]) (st1 := []) (C := RX5) (ci := 5) (q0 := 0) (wc := [(h_t, .inr (5, [.ref h_t_now, .ref h_t_images, .ref h_t_pad, .ref h_t_net, .ref h_t_second, .ref h_t_renumbering, .ref h_t_table, .ref h_t_marks])), (h_t_now, .inr (3, [.int t_now_many, .ref h_t_now_numbers])), (h_t_now_numbers, .inl (cI, 3, .inl t_now_numbers)), (h_t_net, .inr (0, [.int t_net_many, .ref h_t_net_rows])), (h_t_net_rows, .inl (cI, 7, .inl t_net_rows))]) (wr := []) (wc' := [(h_t, .inr (5, [.ref h_t_now, .ref h_t_images, .ref h_t_pad, .ref h_t_net, .ref h_t_second, .ref h_t_renumbering, .ref h_t_table, .ref h_t_marks])), (h_t_now, .inr (3, [.int t_now_many, .ref h_t_now_numbers])), (h_t_now_numbers, .inl (cI, 3, .inl t_now_numbers)), (h_t_net, .inr (0, [.int q_3.1, .ref h_t_net_rows])), (h_t_net_rows, .inl (cI, 7, .inl q_3.2))]) (wf := [(h_t, .inr (5, [.ref h_t_now, .ref h_t_images, .ref h_t_pad, .ref h_t_net, .ref h_t_second, .ref h_t_renumbering, .ref h_t_table, .ref h_t_marks])), (h_t_now, .inr (3, [.int t_now_many, .ref h_t_now_numbers])), (h_t_now_numbers, .inl (cI, 3, .inl t_now_numbers)), (h_t_net, .inr (0, [.int q_3.1, .ref h_t_net_rows])), (h_t_net_rows, .inl (cI, 7, .inl q_3.2))]) (rt := none) ⟨hx, hb, hml, hown, hts⟩ (k_X5_load h_t h_t_now h_t_images h_t_pad h_t_net h_t_second h_t_renumbering h_t_table h_t_marks h_t_now_numbers h_t_net h_t_net_rows t_now_many t_now_numbers t_net_many t_net_rows v1 q_3 hq_3) (cwV 2 hts gX5_of_X5_load rfl rfl rfl ⟨rfl, hdX5_load⟩ ⟨(Nat.le_of_ble_eq_true rfl), (Nat.le_of_ble_eq_true rfl)⟩) hK hN hP hD hS hA [0, 1, 2, 3, 4] [] [0, 1, 2, 3, 4] rfl rfl rfl rfl (by decide) rfl rfl rfl rfl rfl rfl hl.1 rfl (Nat.le_of_ble_eq_true rfl) rfl dX5_of_15 ⟨Nat.zero_le _, Nat.zero_le _⟩ (fun H locs hP hD hS => ?_)
    refine lv_iload_n hx hb dX5_of_18 rfl (lv_at hl 2 rfl) ?_
    by_cases c_9 : v2 = 0
    · have hM := on_pos c_9 hM
      refine lv_tableIn (tgt := 52) hx hb dX5_of_19 (by rw [c_9]; decide) (by rw [c_9]; decide) (by rw [c_9]; rfl) (by decide) ?_
      refine lv_aload_n hx hb dX5_of_52 rfl (lv_at hl 0 rfl) ?_
      refine va_get (D := D) (ci := 5) (v := .ref h_t_now) (C := RX5) (T := TX5) (N := 8) hx hb hts w2 hown hK hP 0 rfl rfl 0 (by decide) w3 (fun _ h9 => h9) rfl dX5_of_53 ?_
      refine va_getN (D := D) (ci := 3) (v := .ref h_t_now_numbers) (C := RX3) (T := TX3) (N := 2) hx hb hts w4 hown hK hP 1 rfl rfl 1 (by decide) (va_Nw.use rfl (hN _ (List.mem_of_getElem? (i := 1) rfl))) (fun _ h9 => h9) rfl dX5_of_56 ?_
      refine lv_iload_n hx hb dX5_of_59 rfl (lv_at hl 1 rfl) ?_
      obtain ⟨g_4, hM⟩ := on_gdE hM
      refine va_iald hx hb hK hP 2 0 rfl rfl (on_ixE g_4) dX5_of_60 ?_
      have hM := Option.some.inj hM
      subst hM
      rw [← hQ]
      exact on_iret hx hb hr hlk hP hD hS dX5_of_61
    · have hM := on_neg c_9 hM
      by_cases c_10 : v2 = 1
      · have hM := on_pos c_10 hM
        refine lv_tableIn (tgt := 62) hx hb dX5_of_19 (by rw [c_10]; decide) (by rw [c_10]; decide) (by rw [c_10]; rfl) (by decide) ?_
        refine lv_aload_n hx hb dX5_of_62 rfl (lv_at hl 0 rfl) ?_
        refine va_get (D := D) (ci := 5) (v := .ref h_t_net) (C := RX5) (T := TX5) (N := 8) hx hb hts w2 hown hK hP 0 rfl rfl 3 (by decide) w1 (fun _ h9 => h9) rfl dX5_of_63 ?_
        obtain ⟨q_5, hq_5, hM⟩ := on_bind hM
        refine on_callVN (rest := []) (As := []) (st1 := [.int q_5]) (C := RX0) (ci := 0) (q0 := 3) (wc := [(h_t_net, .inr (0, [.int q_3.1, .ref h_t_net_rows])), (h_t_net_rows, .inl (cI, 7, .inl q_3.2))]) (wr := [(h_t, .inr (5, [.ref h_t_now, .ref h_t_images, .ref h_t_pad, .ref h_t_net, .ref h_t_second, .ref h_t_renumbering, .ref h_t_table, .ref h_t_marks])), (h_t_now, .inr (3, [.int t_now_many, .ref h_t_now_numbers])), (h_t_now_numbers, .inl (cI, 3, .inl t_now_numbers))]) (wc' := [(h_t_net, .inr (0, [.int q_3.1, .ref h_t_net_rows])), (h_t_net_rows, .inl (cI, 7, .inl q_3.2))]) (wf := [(h_t, .inr (5, [.ref h_t_now, .ref h_t_images, .ref h_t_pad, .ref h_t_net, .ref h_t_second, .ref h_t_renumbering, .ref h_t_table, .ref h_t_marks])), (h_t_now, .inr (3, [.int t_now_many, .ref h_t_now_numbers])), (h_t_now_numbers, .inl (cI, 3, .inl t_now_numbers)), (h_t_net, .inr (0, [.int q_3.1, .ref h_t_net_rows])), (h_t_net_rows, .inl (cI, 7, .inl q_3.2))]) (rt := (some (.int q_5))) ⟨hx, hb, hml, hown, hts⟩ (k_X0_joinedPairs h_t_net h_t_net_rows q_3.1 q_3.2 q_5 hq_5) ⟨va_cnB 0 hts gX5_of_X0_joinedPairs_n89 rfl rfl rfl (hN _ (List.mem_of_getElem? (i := 20) rfl)) w5 hdX0_joinedPairs ⟨(Nat.le_of_ble_eq_true rfl), (Nat.le_of_ble_eq_true rfl)⟩, w6, w7⟩ hK hN hP hD hS hA [3, 4] [0, 1, 2] [0, 1, 2, 3, 4] rfl rfl rfl rfl (by decide) rfl rfl rfl rfl rfl rfl hl.1 rfl (Nat.le_of_ble_eq_true rfl) rfl dX5_of_66 ⟨Nat.zero_le _, Nat.zero_le _⟩ (fun H locs hP hD hS => ?_)
        have hM := Option.some.inj hM
        subst hM
        rw [← hQ]
        exact on_iret hx hb hr hlk hP hD hS dX5_of_69
      · have hM := on_neg c_10 hM
        by_cases c_11 : v2 = 2
        · have hM := on_pos c_11 hM
          refine lv_tableIn (tgt := 70) hx hb dX5_of_19 (by rw [c_11]; decide) (by rw [c_11]; decide) (by rw [c_11]; rfl) (by decide) ?_
          refine lv_aload_n hx hb dX5_of_70 rfl (lv_at hl 0 rfl) ?_
          refine va_get (D := D) (ci := 5) (v := .ref h_t_net) (C := RX5) (T := TX5) (N := 8) hx hb hts w2 hown hK hP 0 rfl rfl 3 (by decide) w1 (fun _ h9 => h9) rfl dX5_of_71 ?_
          obtain ⟨q_6, hq_6, hM⟩ := on_bind hM
          refine on_callVN (rest := []) (As := []) (st1 := [.int q_6]) (C := RX0) (ci := 0) (q0 := 3) (wc := [(h_t_net, .inr (0, [.int q_3.1, .ref h_t_net_rows])), (h_t_net_rows, .inl (cI, 7, .inl q_3.2))]) (wr := [(h_t, .inr (5, [.ref h_t_now, .ref h_t_images, .ref h_t_pad, .ref h_t_net, .ref h_t_second, .ref h_t_renumbering, .ref h_t_table, .ref h_t_marks])), (h_t_now, .inr (3, [.int t_now_many, .ref h_t_now_numbers])), (h_t_now_numbers, .inl (cI, 3, .inl t_now_numbers))]) (wc' := [(h_t_net, .inr (0, [.int q_3.1, .ref h_t_net_rows])), (h_t_net_rows, .inl (cI, 7, .inl q_3.2))]) (wf := [(h_t, .inr (5, [.ref h_t_now, .ref h_t_images, .ref h_t_pad, .ref h_t_net, .ref h_t_second, .ref h_t_renumbering, .ref h_t_table, .ref h_t_marks])), (h_t_now, .inr (3, [.int t_now_many, .ref h_t_now_numbers])), (h_t_now_numbers, .inl (cI, 3, .inl t_now_numbers)), (h_t_net, .inr (0, [.int q_3.1, .ref h_t_net_rows])), (h_t_net_rows, .inl (cI, 7, .inl q_3.2))]) (rt := (some (.int q_6))) ⟨hx, hb, hml, hown, hts⟩ (k_X0_oddTriples h_t_net h_t_net_rows q_3.1 q_3.2 q_6 hq_6) ⟨va_cnB 0 hts gX5_of_X0_oddTriples_n120 rfl rfl rfl (hN _ (List.mem_of_getElem? (i := 27) rfl)) w5 hdX0_oddTriples ⟨(Nat.le_of_ble_eq_true rfl), (Nat.le_of_ble_eq_true rfl)⟩, w8, w9⟩ hK hN hP hD hS hA [3, 4] [0, 1, 2] [0, 1, 2, 3, 4] rfl rfl rfl rfl (by decide) rfl rfl rfl rfl rfl rfl hl.1 rfl (Nat.le_of_ble_eq_true rfl) rfl dX5_of_74 ⟨Nat.zero_le _, Nat.zero_le _⟩ (fun H locs hP hD hS => ?_)
          have hM := Option.some.inj hM
          subst hM
          rw [← hQ]
          exact on_iret hx hb hr hlk hP hD hS dX5_of_77
        · have hM := on_neg c_11 hM
          by_cases c_12 : v2 = 3
          · have hM := on_pos c_12 hM
            refine lv_tableIn (tgt := 78) hx hb dX5_of_19 (by rw [c_12]; decide) (by rw [c_12]; decide) (by rw [c_12]; rfl) (by decide) ?_
            refine lv_aload_n hx hb dX5_of_78 rfl (lv_at hl 0 rfl) ?_
            refine va_get (D := D) (ci := 5) (v := .ref h_t_net) (C := RX5) (T := TX5) (N := 8) hx hb hts w2 hown hK hP 0 rfl rfl 3 (by decide) w1 (fun _ h9 => h9) rfl dX5_of_79 ?_
            obtain ⟨q_7, hq_7, hM⟩ := on_bind hM
            refine on_callVN (rest := []) (As := []) (st1 := [.int q_7]) (C := RX0) (ci := 0) (q0 := 3) (wc := [(h_t_net, .inr (0, [.int q_3.1, .ref h_t_net_rows])), (h_t_net_rows, .inl (cI, 7, .inl q_3.2))]) (wr := [(h_t, .inr (5, [.ref h_t_now, .ref h_t_images, .ref h_t_pad, .ref h_t_net, .ref h_t_second, .ref h_t_renumbering, .ref h_t_table, .ref h_t_marks])), (h_t_now, .inr (3, [.int t_now_many, .ref h_t_now_numbers])), (h_t_now_numbers, .inl (cI, 3, .inl t_now_numbers))]) (wc' := [(h_t_net, .inr (0, [.int q_3.1, .ref h_t_net_rows])), (h_t_net_rows, .inl (cI, 7, .inl q_3.2))]) (wf := [(h_t, .inr (5, [.ref h_t_now, .ref h_t_images, .ref h_t_pad, .ref h_t_net, .ref h_t_second, .ref h_t_renumbering, .ref h_t_table, .ref h_t_marks])), (h_t_now, .inr (3, [.int t_now_many, .ref h_t_now_numbers])), (h_t_now_numbers, .inl (cI, 3, .inl t_now_numbers)), (h_t_net, .inr (0, [.int q_3.1, .ref h_t_net_rows])), (h_t_net_rows, .inl (cI, 7, .inl q_3.2))]) (rt := (some (.int q_7))) ⟨hx, hb, hml, hown, hts⟩ (k_X0_oddTriplesOfEachPair h_t_net h_t_net_rows q_3.1 q_3.2 q_7 hq_7) ⟨va_cnB 0 hts gX5_of_X0_oddTriplesOfEachPair_n123 rfl rfl rfl (hN _ (List.mem_of_getElem? (i := 28) rfl)) w5 hdX0_oddTriplesOfEachPair ⟨(Nat.le_of_ble_eq_true rfl), (Nat.le_of_ble_eq_true rfl)⟩, w10, w11⟩ hK hN hP hD hS hA [3, 4] [0, 1, 2] [0, 1, 2, 3, 4] rfl rfl rfl rfl (by decide) rfl rfl rfl rfl rfl rfl hl.1 rfl (Nat.le_of_ble_eq_true rfl) rfl dX5_of_82 ⟨Nat.zero_le _, Nat.zero_le _⟩ (fun H locs hP hD hS => ?_)
            have hM := Option.some.inj hM
            subst hM
            rw [← hQ]
            exact on_iret hx hb hr hlk hP hD hS dX5_of_85
          · have hM := on_neg c_12 hM
            by_cases c_13 : v2 = 4
            · have hM := on_pos c_13 hM
              refine lv_tableIn (tgt := 86) hx hb dX5_of_19 (by rw [c_13]; decide) (by rw [c_13]; decide) (by rw [c_13]; rfl) (by decide) ?_
              refine lv_aload_n hx hb dX5_of_86 rfl (lv_at hl 0 rfl) ?_
              refine va_get (D := D) (ci := 5) (v := .ref h_t_net) (C := RX5) (T := TX5) (N := 8) hx hb hts w2 hown hK hP 0 rfl rfl 3 (by decide) w1 (fun _ h9 => h9) rfl dX5_of_87 ?_
              obtain ⟨q_8, hq_8, hM⟩ := on_bind hM
              refine on_callVN (rest := []) (As := []) (st1 := [.int q_8]) (C := RX0) (ci := 0) (q0 := 3) (wc := [(h_t_net, .inr (0, [.int q_3.1, .ref h_t_net_rows])), (h_t_net_rows, .inl (cI, 7, .inl q_3.2))]) (wr := [(h_t, .inr (5, [.ref h_t_now, .ref h_t_images, .ref h_t_pad, .ref h_t_net, .ref h_t_second, .ref h_t_renumbering, .ref h_t_table, .ref h_t_marks])), (h_t_now, .inr (3, [.int t_now_many, .ref h_t_now_numbers])), (h_t_now_numbers, .inl (cI, 3, .inl t_now_numbers))]) (wc' := [(h_t_net, .inr (0, [.int q_3.1, .ref h_t_net_rows])), (h_t_net_rows, .inl (cI, 7, .inl q_3.2))]) (wf := [(h_t, .inr (5, [.ref h_t_now, .ref h_t_images, .ref h_t_pad, .ref h_t_net, .ref h_t_second, .ref h_t_renumbering, .ref h_t_table, .ref h_t_marks])), (h_t_now, .inr (3, [.int t_now_many, .ref h_t_now_numbers])), (h_t_now_numbers, .inl (cI, 3, .inl t_now_numbers)), (h_t_net, .inr (0, [.int q_3.1, .ref h_t_net_rows])), (h_t_net_rows, .inl (cI, 7, .inl q_3.2))]) (rt := (some (.int q_8))) ⟨hx, hb, hml, hown, hts⟩ (k_X0_oddDegrees h_t_net h_t_net_rows q_3.1 q_3.2 q_8 hq_8) ⟨va_cnB 0 hts gX5_of_X0_oddDegrees_n126 rfl rfl rfl (hN _ (List.mem_of_getElem? (i := 29) rfl)) w5 hdX0_oddDegrees ⟨(Nat.le_of_ble_eq_true rfl), (Nat.le_of_ble_eq_true rfl)⟩, w12, w13⟩ hK hN hP hD hS hA [3, 4] [0, 1, 2] [0, 1, 2, 3, 4] rfl rfl rfl rfl (by decide) rfl rfl rfl rfl rfl rfl hl.1 rfl (Nat.le_of_ble_eq_true rfl) rfl dX5_of_90 ⟨Nat.zero_le _, Nat.zero_le _⟩ (fun H locs hP hD hS => ?_)
              have hM := Option.some.inj hM
              subst hM
              rw [← hQ]
              exact on_iret hx hb hr hlk hP hD hS dX5_of_93
            · have hM := on_neg c_13 hM
              refine lv_tableOut (tgt := 94) hx hb dX5_of_19 (on_swOut (n := 5) (fun k hk => by rcases (show k = 0 ∨ k = 1 ∨ k = 2 ∨ k = 3 ∨ k = 4 by omega) with rfl | rfl | rfl | rfl | rfl <;> first | exact c_9 | exact c_10 | exact c_11 | exact c_12 | exact c_13) (by decide)) (by decide) ?_
              refine lv_bipush (v := -2) hx hb dX5_of_94 (by decide) ?_
              have hM := Option.some.inj hM
              subst hM
              rw [← hQ]
              exact on_iret hx hb hr hlk hP hD hS dX5_of_96
  · have hM := on_pos c_2 hM
    refine lv_iconst (v := -1) hx hb dX5_of_7 (by decide) ?_
    have hM := Option.some.inj hM
    subst hM
    rw [← hQ]
    exact on_iret hx hb hr hlk hP hD hS dX5_of_8
abbrev rm_X0_leaveAlone : Room := { frames := 2, cells := 0, slots := 0, locals := 43 }
set_option maxHeartbeats 4000000 in
set_option maxRecDepth 100000 in
theorem k_X0_leaveAlone {l : Launch} {D : va_G} {cI cJ cZ cS cA : ClassId} (h_t : Nat) (h_t_rows : Nat) (t_many : Int32) (t_rows : Nat → Int32) (v1 : Int32) (out : (Nat → Int32)) (hM : M_X0_leaveAlone v1 t_many t_rows = some out) : on_Con l yX0_leaveAlone wsX0_leaveAlone rm_X0_leaveAlone [.ref h_t, .int v1] D (on_T cI cJ cZ cS cA) [(h_t, .inr (0, [.int t_many, .ref h_t_rows])), (h_t_rows, .inl (cI, 7, .inl t_rows))] none [(h_t, .inr (0, [.int t_many, .ref h_t_rows])), (h_t_rows, .inl (cI, 7, .inl out))] := by
  unfold M_X0_leaveAlone at hM
  refine on_enter (cc := cX0_leaveAlone) (nL := 2) (rt := none) (own := RX0) (by decide +kernel) rfl rfl (Nat.le_of_ble_eq_true rfl) ?_
  intro p e s m below meth c A ls hx hb hml hr hlk hts hown hA hK hN H locs hP hD hS hl
  have hl : lv_has ls 2 [(0, .ref h_t), (1, .int v1)] := hl
  generalize hQ : MQ below (on_Q D none [(h_t, .inr (0, [.int t_many, .ref h_t_rows])), (h_t_rows, .inl (cI, 7, .inl out))] A) _ s 0 0 A = Q
  generalize hAr : List.toArray ([.ref h_t, .int v1] : List Value) = args at hts hQ ⊢
  have w1 := hts (.fieldLink RX0 15 "OddNets$Net" "rows" "[I") (by decide +kernel)
  have w2 : ∀ w ∈ wsX00, w ∈ wsX0_leaveAlone := by decide +kernel
  refine lv_aload_n hx hb dX0_leaveAlone_0 rfl (lv_at hl 0 rfl) ?_
  refine lv_aload_n hx hb dX0_leaveAlone_1 rfl (lv_at hl 0 rfl) ?_
  refine va_get (D := D) (ci := 0) (v := .ref h_t_rows) (C := RX0) (T := TX0) (N := 2) hx hb hts w2 hown hK hP 0 rfl rfl 1 (by decide) w1 (fun _ h9 => h9) rfl dX0_leaveAlone_2 ?_
  refine lv_iload_n hx hb dX0_leaveAlone_5 rfl (lv_at hl 1 rfl) ?_
  obtain ⟨g_1, hM⟩ := on_gdE hM
  refine va_iald hx hb hK hP 1 0 rfl rfl (on_ixE g_1) dX0_leaveAlone_6 ?_
  obtain ⟨q_2, hq_2, hM⟩ := on_bind hM
  refine on_callV (rest := []) (As := [.int (t_rows (Int32.toNatClampNeg v1))]) (st1 := []) (C := RX0) (ci := 0) (q0 := 0) (wc := [(h_t, .inr (0, [.int t_many, .ref h_t_rows])), (h_t_rows, .inl (cI, 7, .inl t_rows))]) (wr := []) (wc' := [(h_t, .inr (0, [.int t_many, .ref h_t_rows])), (h_t_rows, .inl (cI, 7, .inl q_2))]) (wf := [(h_t, .inr (0, [.int t_many, .ref h_t_rows])), (h_t_rows, .inl (cI, 7, .inl q_2))]) (rt := none) ⟨hx, hb, hml, hown, hts⟩ (k_X0_switchBy h_t h_t_rows t_many t_rows (t_rows (Int32.toNatClampNeg v1)) q_2 hq_2) (cwV 1 hts gX0_leaveAlone_X0_switchBy rfl rfl rfl ⟨rfl, hdX0_switchBy⟩ ⟨(Nat.le_of_ble_eq_true rfl), (Nat.le_of_ble_eq_true rfl)⟩) hK hN hP hD hS hA [0, 1] [] [0, 1] rfl rfl rfl rfl (by decide) rfl rfl rfl rfl rfl rfl hl.1 rfl (Nat.le_of_ble_eq_true rfl) rfl dX0_leaveAlone_7 ⟨Nat.zero_le _, Nat.zero_le _⟩ (fun H locs hP hD hS => ?_)
  have hM := Option.some.inj hM
  subst hM
  rw [← hQ]
  exact on_vret hx hb hr hlk hP hD hS dX0_leaveAlone_10
abbrev rm_X0_drop : Room := { frames := 0, cells := 0, slots := 0, locals := 0 }
set_option maxHeartbeats 4000000 in
set_option maxRecDepth 100000 in
theorem k_X0_drop {l : Launch} {D : va_G} {cI cJ cZ cS cA : ClassId} (h_t : Nat) (h_t_rows : Nat) (t_many : Int32) (t_rows : Nat → Int32) (v1 : Int32) (out : Int32 × (Nat → Int32)) (hM : M_X0_drop v1 t_many t_rows = some out) : on_Con l yX0_drop wsX0_drop rm_X0_drop [.ref h_t, .int v1] D (on_T cI cJ cZ cS cA) [(h_t, .inr (0, [.int t_many, .ref h_t_rows])), (h_t_rows, .inl (cI, 7, .inl t_rows))] none [(h_t, .inr (0, [.int out.1, .ref h_t_rows])), (h_t_rows, .inl (cI, 7, .inl out.2))] := by
  unfold M_X0_drop at hM
  refine on_enter (cc := cX0_drop) (nL := 4) (rt := none) (own := RX0) (by decide +kernel) rfl rfl (Nat.le_of_ble_eq_true rfl) ?_
  intro p e s m below meth c A ls hx hb hml hr hlk hts hown hA hK hN H locs hP hD hS hl
  have hl : lv_has ls 4 [(0, .ref h_t), (1, .int v1)] := hl
  generalize hQ : MQ below (on_Q D none [(h_t, .inr (0, [.int out.1, .ref h_t_rows])), (h_t_rows, .inl (cI, 7, .inl out.2))] A) _ s 0 0 A = Q
  generalize hAr : List.toArray ([.ref h_t, .int v1] : List Value) = args at hts hQ ⊢
  have w1 := hts (.fieldLink RX0 9 "OddNets$Net" "many" "I") (by decide +kernel)
  have w2 : ∀ w ∈ wsX00, w ∈ wsX0_drop := by decide +kernel
  have w3 := hts (.fieldLink RX0 15 "OddNets$Net" "rows" "[I") (by decide +kernel)
  have lp_8 : ∀ (v2 : Int32) (t_many : Int32), ∀ (n : Nat) (v3 : Int32) (t_rows : Nat → Int32) (x : (Nat → Int32)), on_loop (fun (s : Int32 × (Nat → Int32)) => B_X0_drop_8 t_many s.1 s.2) n (v3, t_rows) = some x → (∀ (H : Heap) (locs : List Loc), va_P D vwCl [(h_t, .inr (0, [.int t_many, .ref h_t_rows])), (h_t_rows, .inl (cI, 7, .inl x))] H → va_D A [(h_t, .inr (0, [.int t_many, .ref h_t_rows])), (h_t_rows, .inl (cI, 7, .inl x))] → va_S A s.heap H locs → ∀ ls : Array Slot, lv_has ls 4 [(0, .ref h_t), (2, .int v2)] → W p l e rm_X0_drop s m args below meth c H locs 0 0 Q (F0 m 38 ls [])) → ∀ (H : Heap) (locs : List Loc), va_P D vwCl [(h_t, .inr (0, [.int t_many, .ref h_t_rows])), (h_t_rows, .inl (cI, 7, .inl t_rows))] H → va_D A [(h_t, .inr (0, [.int t_many, .ref h_t_rows])), (h_t_rows, .inl (cI, 7, .inl t_rows))] → va_S A s.heap H locs → ∀ ls : Array Slot, lv_has ls 4 [(0, .ref h_t), (2, .int v2), (3, .int v3)] → W p l e rm_X0_drop s m args below meth c H locs 0 0 Q (F0 m 8 ls []) := by
    intro v2 t_many
    intro n
    induction n with
    | zero =>
      intro v3 t_rows x hL
      exact (on_loop0 hL).elim
    | succ n ih =>
      intro v3 t_rows x hL K1 H locs hP hD hS ls hl
      obtain ⟨y, hM, hk⟩ := on_loopE hL
      have hM : B_X0_drop_8 t_many v3 t_rows = some y := hM
      unfold B_X0_drop_8 at hM
      refine lv_iload_n hx hb dX0_drop_8 rfl (lv_at hl 2 rfl) ?_
      refine lv_aload_n hx hb dX0_drop_9 rfl (lv_at hl 0 rfl) ?_
      refine va_get (D := D) (ci := 0) (v := .int t_many) (C := RX0) (T := TX0) (N := 2) hx hb hts w2 hown hK hP 0 rfl rfl 0 (by decide) w1 (fun _ h9 => h9) rfl dX0_drop_10 ?_
      refine lv_iconst (v := 1) hx hb dX0_drop_13 (by decide) ?_
      refine lv_isub hx hb dX0_drop_14 ?_
      refine lv_icmp_ge (tgt := 38) hx hb dX0_drop_15 (by decide) (fun c_2 => ?_) (fun c_2 => ?_)
      · have hM := on_pos c_2 hM
        have hk := on_nxR hM hk
        subst hk
        exact K1 _ _ hP hD hS ls (lv_sub hl [0, 1] rfl)
      · have hM := on_neg c_2 hM
        refine lv_aload_n hx hb dX0_drop_18 rfl (lv_at hl 0 rfl) ?_
        refine va_get (D := D) (ci := 0) (v := .ref h_t_rows) (C := RX0) (T := TX0) (N := 2) hx hb hts w2 hown hK hP 0 rfl rfl 1 (by decide) w3 (fun _ h9 => h9) rfl dX0_drop_19 ?_
        refine lv_iload_n hx hb dX0_drop_22 rfl (lv_at hl 2 rfl) ?_
        refine lv_aload_n hx hb dX0_drop_23 rfl (lv_at hl 0 rfl) ?_
        refine va_get (D := D) (ci := 0) (v := .ref h_t_rows) (C := RX0) (T := TX0) (N := 2) hx hb hts w2 hown hK hP 0 rfl rfl 1 (by decide) w3 (fun _ h9 => h9) rfl dX0_drop_24 ?_
        refine lv_iload_n hx hb dX0_drop_27 rfl (lv_at hl 2 rfl) ?_
        refine lv_iconst (v := 1) hx hb dX0_drop_28 (by decide) ?_
        refine lv_iadd hx hb dX0_drop_29 ?_
        obtain ⟨g_3, hM⟩ := on_gdE hM
        refine va_iald hx hb hK hP 1 0 rfl rfl (on_ixE g_3) dX0_drop_30 ?_
        obtain ⟨g_4, hM⟩ := on_gdE hM
        refine va_iast hx hb hK hP hD hS 1 0 rfl rfl (on_ixE g_4) dX0_drop_31 (fun H locs hP hD hS => ?_)
        have hP : va_P D vwCl [(h_t, .inr (0, [.int t_many, .ref h_t_rows])), (h_t_rows, .inl (cI, 7, .inl (upd t_rows (Int32.toNatClampNeg v3) (t_rows (Int32.toNatClampNeg (v3 + (1 : Int32)))))))] H := hP
        have hD : va_D A [(h_t, .inr (0, [.int t_many, .ref h_t_rows])), (h_t_rows, .inl (cI, 7, .inl (upd t_rows (Int32.toNatClampNeg v3) (t_rows (Int32.toNatClampNeg (v3 + (1 : Int32)))))))] := hD
        obtain ⟨v3_5, ev3_5⟩ : ∃ z : Int32, z = v3 + 1 := ⟨_, rfl⟩
        have hM := on_letE ev3_5 hM
        refine lv_iinc (v := v3_5) (lv' := [(3, .int v3_5), (0, .ref h_t), (2, .int v2)]) hx hb dX0_drop_32 hl (k := 2) rfl (by rw [ev3_5]; rfl) (by decide) rfl (fun ls hl => ?_)
        refine lv_goto (tgt := 8) hx hb dX0_drop_35 (by decide) ?_
        have hk := on_nxL hM hk
        exact ih v3_5 (upd t_rows (Int32.toNatClampNeg v3) (t_rows (Int32.toNatClampNeg (v3 + (1 : Int32))))) _ hk K1 _ _ hP hD hS ls (lv_sub hl [1, 2, 0] rfl)
  have lp_50 : ∀ (v2 : Int32) (t_many : Int32), ∀ (n : Nat) (v3 : Int32) (t_rows : Nat → Int32) (x : (Nat → Int32)), on_loop (fun (s : Int32 × (Nat → Int32)) => B_X0_drop_50 v2 t_many s.1 s.2) n (v3, t_rows) = some x → (∀ (H : Heap) (locs : List Loc), va_P D vwCl [(h_t, .inr (0, [.int t_many, .ref h_t_rows])), (h_t_rows, .inl (cI, 7, .inl x))] H → va_D A [(h_t, .inr (0, [.int t_many, .ref h_t_rows])), (h_t_rows, .inl (cI, 7, .inl x))] → va_S A s.heap H locs → ∀ ls : Array Slot, lv_has ls 4 [] → W p l e rm_X0_drop s m args below meth c H locs 0 0 Q (F0 m 91 ls [])) → ∀ (H : Heap) (locs : List Loc), va_P D vwCl [(h_t, .inr (0, [.int t_many, .ref h_t_rows])), (h_t_rows, .inl (cI, 7, .inl t_rows))] H → va_D A [(h_t, .inr (0, [.int t_many, .ref h_t_rows])), (h_t_rows, .inl (cI, 7, .inl t_rows))] → va_S A s.heap H locs → ∀ ls : Array Slot, lv_has ls 4 [(0, .ref h_t), (2, .int v2), (3, .int v3)] → W p l e rm_X0_drop s m args below meth c H locs 0 0 Q (F0 m 50 ls []) := by
    intro v2 t_many
    intro n
    induction n with
    | zero =>
      intro v3 t_rows x hL
      exact (on_loop0 hL).elim
    | succ n ih =>
      intro v3 t_rows x hL K1 H locs hP hD hS ls hl
      obtain ⟨y, hM, hk⟩ := on_loopE hL
      have hM : B_X0_drop_50 v2 t_many v3 t_rows = some y := hM
      unfold B_X0_drop_50 at hM
      refine lv_iload_n hx hb dX0_drop_50 rfl (lv_at hl 2 rfl) ?_
      refine lv_aload_n hx hb dX0_drop_51 rfl (lv_at hl 0 rfl) ?_
      refine va_get (D := D) (ci := 0) (v := .int t_many) (C := RX0) (T := TX0) (N := 2) hx hb hts w2 hown hK hP 0 rfl rfl 0 (by decide) w1 (fun _ h9 => h9) rfl dX0_drop_52 ?_
      refine lv_icmp_ge (tgt := 91) hx hb dX0_drop_55 (by decide) (fun c_8 => ?_) (fun c_8 => ?_)
      · have hM := on_pos c_8 hM
        have hk := on_nxR hM hk
        subst hk
        exact K1 _ _ hP hD hS ls (lv_sub hl [] rfl)
      · have hM := on_neg c_8 hM
        refine lv_aload_n hx hb dX0_drop_58 rfl (lv_at hl 0 rfl) ?_
        refine va_get (D := D) (ci := 0) (v := .ref h_t_rows) (C := RX0) (T := TX0) (N := 2) hx hb hts w2 hown hK hP 0 rfl rfl 1 (by decide) w3 (fun _ h9 => h9) rfl dX0_drop_59 ?_
        refine lv_iload_n hx hb dX0_drop_62 rfl (lv_at hl 2 rfl) ?_
        refine lv_aload_n hx hb dX0_drop_63 rfl (lv_at hl 0 rfl) ?_
        refine va_get (D := D) (ci := 0) (v := .ref h_t_rows) (C := RX0) (T := TX0) (N := 2) hx hb hts w2 hown hK hP 0 rfl rfl 1 (by decide) w3 (fun _ h9 => h9) rfl dX0_drop_64 ?_
        refine lv_iload_n hx hb dX0_drop_67 rfl (lv_at hl 2 rfl) ?_
        obtain ⟨g_9, hM⟩ := on_gdE hM
        refine va_iald hx hb hK hP 1 0 rfl rfl (on_ixE g_9) dX0_drop_68 ?_
        refine lv_iload_n hx hb dX0_drop_69 rfl (lv_at hl 1 rfl) ?_
        refine lv_iand hx hb dX0_drop_70 ?_
        refine lv_aload_n hx hb dX0_drop_71 rfl (lv_at hl 0 rfl) ?_
        refine va_get (D := D) (ci := 0) (v := .ref h_t_rows) (C := RX0) (T := TX0) (N := 2) hx hb hts w2 hown hK hP 0 rfl rfl 1 (by decide) w3 (fun _ h9 => h9) rfl dX0_drop_72 ?_
        refine lv_iload_n hx hb dX0_drop_75 rfl (lv_at hl 2 rfl) ?_
        obtain ⟨g_10, hM⟩ := on_gdE hM
        refine va_iald hx hb hK hP 1 0 rfl rfl (on_ixE g_10) dX0_drop_76 ?_
        refine lv_iconst (v := 1) hx hb dX0_drop_77 (by decide) ?_
        refine lv_ishr hx hb dX0_drop_78 ?_
        refine lv_iload_n hx hb dX0_drop_79 rfl (lv_at hl 1 rfl) ?_
        refine lv_iconst (v := -1) hx hb dX0_drop_80 (by decide) ?_
        refine lv_ixor hx hb dX0_drop_81 ?_
        refine lv_iand hx hb dX0_drop_82 ?_
        refine lv_ior hx hb dX0_drop_83 ?_
        obtain ⟨g_11, hM⟩ := on_gdE hM
        refine va_iast hx hb hK hP hD hS 1 0 rfl rfl (on_ixE g_11) dX0_drop_84 (fun H locs hP hD hS => ?_)
        have hP : va_P D vwCl [(h_t, .inr (0, [.int t_many, .ref h_t_rows])), (h_t_rows, .inl (cI, 7, .inl (upd t_rows (Int32.toNatClampNeg v3) (((t_rows (Int32.toNatClampNeg v3)) &&& v2) ||| (((t_rows (Int32.toNatClampNeg v3)) >>> ((1 : Int32) &&& 31)) &&& (v2 ^^^ (-1 : Int32)))))))] H := hP
        have hD : va_D A [(h_t, .inr (0, [.int t_many, .ref h_t_rows])), (h_t_rows, .inl (cI, 7, .inl (upd t_rows (Int32.toNatClampNeg v3) (((t_rows (Int32.toNatClampNeg v3)) &&& v2) ||| (((t_rows (Int32.toNatClampNeg v3)) >>> ((1 : Int32) &&& 31)) &&& (v2 ^^^ (-1 : Int32)))))))] := hD
        obtain ⟨v3_12, ev3_12⟩ : ∃ z : Int32, z = v3 + 1 := ⟨_, rfl⟩
        have hM := on_letE ev3_12 hM
        refine lv_iinc (v := v3_12) (lv' := [(3, .int v3_12), (0, .ref h_t), (2, .int v2)]) hx hb dX0_drop_85 hl (k := 2) rfl (by rw [ev3_12]; rfl) (by decide) rfl (fun ls hl => ?_)
        refine lv_goto (tgt := 50) hx hb dX0_drop_88 (by decide) ?_
        have hk := on_nxL hM hk
        exact ih v3_12 (upd t_rows (Int32.toNatClampNeg v3) (((t_rows (Int32.toNatClampNeg v3)) &&& v2) ||| (((t_rows (Int32.toNatClampNeg v3)) >>> ((1 : Int32) &&& 31)) &&& (v2 ^^^ (-1 : Int32))))) _ hk K1 _ _ hP hD hS ls (lv_sub hl [1, 2, 0] rfl)
  refine lv_iconst (v := 1) hx hb dX0_drop_0 (by decide) ?_
  refine lv_iload_n hx hb dX0_drop_1 rfl (lv_at hl 1 rfl) ?_
  refine lv_ishl hx hb dX0_drop_2 ?_
  refine lv_iconst (v := 1) hx hb dX0_drop_3 (by decide) ?_
  refine lv_isub hx hb dX0_drop_4 ?_
  refine lv_topi (fun v2_1 ev2_1 => ?_)
  have hM := on_letE ev2_1 hM
  refine lv_istore_n (lv' := [(2, .int v2_1), (0, .ref h_t), (1, .int v1)]) hx hb dX0_drop_5 rfl hl (by decide) rfl (fun ls hl => ?_)
  refine lv_iload_n hx hb dX0_drop_6 rfl (lv_at hl 2 rfl) ?_
  refine lv_istore_n (lv' := [(3, .int v1), (2, .int v2_1), (0, .ref h_t), (1, .int v1)]) hx hb dX0_drop_7 rfl hl (by decide) rfl (fun ls hl => ?_)
  obtain ⟨q_6, hq_6, hM⟩ := on_bind hM
  refine lp_8 v2_1 t_many on_F v1 t_rows q_6 hq_6 (fun H locs hP hD hS ls hl => ?_) H locs hP hD hS ls (lv_sub hl [2, 1, 0] rfl)
  refine lv_aload_n hx hb dX0_drop_38 rfl (lv_at hl 0 rfl) ?_
  refine lv_dup hx hb dX0_drop_39 rfl ?_
  refine va_get (D := D) (ci := 0) (v := .int t_many) (C := RX0) (T := TX0) (N := 2) hx hb hts w2 hown hK hP 0 rfl rfl 0 (by decide) w1 (fun _ h9 => h9) rfl dX0_drop_40 ?_
  refine lv_iconst (v := 1) hx hb dX0_drop_43 (by decide) ?_
  refine lv_isub hx hb dX0_drop_44 ?_
  refine lv_topi (fun t_many_7 et_many_7 => ?_)
  have hM := on_letE et_many_7 hM
  refine va_put (D := D) (ci := 0) (v := .int t_many_7) (ty := .int) (C := RX0) (T := TX0) (N := 2) hx hb hts w2 tyX0 tyX0_ok nmX0 hown hK hP hD hS 0 rfl rfl 0 (by decide) w1 (fun _ h9 => h9) rfl (by decide +kernel) rfl rfl (Nat.le_of_ble_eq_true rfl) dX0_drop_45 (fun H locs hP hD hS => ?_)
  have hP : va_P D vwCl [(h_t, .inr (0, [.int t_many_7, .ref h_t_rows])), (h_t_rows, .inl (cI, 7, .inl q_6))] H := hP
  have hD : va_D A [(h_t, .inr (0, [.int t_many_7, .ref h_t_rows])), (h_t_rows, .inl (cI, 7, .inl q_6))] := hD
  refine lv_iconst (v := 0) hx hb dX0_drop_48 (by decide) ?_
  refine lv_istore_n (lv' := [(3, .int (0 : Int32)), (0, .ref h_t), (2, .int v2_1)]) hx hb dX0_drop_49 rfl hl (by decide) rfl (fun ls hl => ?_)
  obtain ⟨q_13, hq_13, hM⟩ := on_bind hM
  refine lp_50 v2_1 t_many_7 on_F (0 : Int32) q_6 q_13 hq_13 (fun H locs hP hD hS ls hl => ?_) H locs hP hD hS ls (lv_sub hl [1, 2, 0] rfl)
  have hM := Option.some.inj hM
  subst hM
  rw [← hQ]
  exact on_vret hx hb hr hlk hP hD hS dX0_drop_91
abbrev rm_X5_node : Room := { frames := 3, cells := 0, slots := 0, locals := 69 }
set_option maxHeartbeats 4000000 in
set_option maxRecDepth 100000 in
theorem k_X5_node {l : Launch} {D : va_G} {cI cJ cZ cS cA : ClassId} (h_t : Nat) (h_t_now : Nat) (h_t_images : Nat) (h_t_pad : Nat) (h_t_net : Nat) (h_t_second : Nat) (h_t_renumbering : Nat) (h_t_table : Nat) (h_t_marks : Nat) (h_t_now_numbers : Nat) (h_t_net_rows : Nat) (t_now_many : Int32) (t_now_numbers : Nat → Int32) (t_net_many : Int32) (t_net_rows : Nat → Int32) (v1 : Int32) (v2 : Int32) (v3 : Int32) (out : Int32 × Int32 × (Nat → Int32)) (hM : M_X5_node v1 v2 v3 t_now_many t_now_numbers t_net_many t_net_rows = some out) : on_Con l yX5_node wsX5_node rm_X5_node [.ref h_t, .int v1, .int v2, .int v3] D (on_T cI cJ cZ cS cA) [(h_t, .inr (5, [.ref h_t_now, .ref h_t_images, .ref h_t_pad, .ref h_t_net, .ref h_t_second, .ref h_t_renumbering, .ref h_t_table, .ref h_t_marks])), (h_t_now, .inr (3, [.int t_now_many, .ref h_t_now_numbers])), (h_t_now_numbers, .inl (cI, 3, .inl t_now_numbers)), (h_t_net, .inr (0, [.int t_net_many, .ref h_t_net_rows])), (h_t_net_rows, .inl (cI, 7, .inl t_net_rows))] (some (.int out.1)) [(h_t, .inr (5, [.ref h_t_now, .ref h_t_images, .ref h_t_pad, .ref h_t_net, .ref h_t_second, .ref h_t_renumbering, .ref h_t_table, .ref h_t_marks])), (h_t_now, .inr (3, [.int t_now_many, .ref h_t_now_numbers])), (h_t_now_numbers, .inl (cI, 3, .inl t_now_numbers)), (h_t_net, .inr (0, [.int out.2.1, .ref h_t_net_rows])), (h_t_net_rows, .inl (cI, 7, .inl out.2.2))] := by
  unfold M_X5_node at hM
  refine on_enter (cc := cX5_node) (nL := 4) (rt := (some .int)) (own := RX5) (by decide +kernel) rfl rfl (Nat.le_of_ble_eq_true rfl) ?_
  intro p e s m below meth c A ls hx hb hml hr hlk hts hown hA hK hN H locs hP hD hS hl
  have hl : lv_has ls 4 [(0, .ref h_t), (1, .int v1), (2, .int v2), (3, .int v3)] := hl
  generalize hQ : MQ below (on_Q D (some (.int out.1)) [(h_t, .inr (5, [.ref h_t_now, .ref h_t_images, .ref h_t_pad, .ref h_t_net, .ref h_t_second, .ref h_t_renumbering, .ref h_t_table, .ref h_t_marks])), (h_t_now, .inr (3, [.int t_now_many, .ref h_t_now_numbers])), (h_t_now_numbers, .inl (cI, 3, .inl t_now_numbers)), (h_t_net, .inr (0, [.int out.2.1, .ref h_t_net_rows])), (h_t_net_rows, .inl (cI, 7, .inl out.2.2))] A) _ s 0 0 A = Q
  generalize hAr : List.toArray ([.ref h_t, .int v1, .int v2, .int v3] : List Value) = args at hts hQ ⊢
  have w1 := hts (.fieldLink RX5 30 "OddNets" "net" "LOddNets$Net;") (by decide +kernel)
  have w2 : ∀ w ∈ wsX50, w ∈ wsX5_node := by decide +kernel
  have w3 := hts (.initialized RX0) (by decide +kernel)
  have w4 := hts (.instanceMethod yX0_degree) (by decide +kernel)
  have w5 := hts (.selects RX0 yX0_degree yX0_degree) (by decide +kernel)
  have w6 := hts (.instanceMethod yX0_oddTriplesAtNode) (by decide +kernel)
  have w7 := hts (.selects RX0 yX0_oddTriplesAtNode yX0_oddTriplesAtNode) (by decide +kernel)
  have w8 := hts (.instanceMethod yX0_leaveAlone) (by decide +kernel)
  have w9 := hts (.selects RX0 yX0_leaveAlone yX0_leaveAlone) (by decide +kernel)
  have w10 := hts (.instanceMethod yX0_number) (by decide +kernel)
  have w11 := hts (.selects RX0 yX0_number yX0_number) (by decide +kernel)
  have w12 := hts (.instanceMethod yX0_drop) (by decide +kernel)
  have w13 := hts (.selects RX0 yX0_drop yX0_drop) (by decide +kernel)
  refine lv_iload_n hx hb dX5_node_0 rfl (lv_at hl 1 rfl) ?_
  obtain ⟨q_1, hq_1, hM⟩ := on_bind hM
  refine on_callS0 (rest := []) (As := [.int v1]) (st1 := [.int q_1]) ⟨hx, hb, hml, hown, hts⟩ (k_X5_isSlot v1 q_1 hq_1) (va_cwS 1 hts gX5_node_X5_isSlot rfl rfl rfl hdX5_isSlot ⟨(Nat.le_of_ble_eq_true rfl), (Nat.le_of_ble_eq_true rfl)⟩) hK hN hP hD hS hA rfl hl.1 rfl (Nat.le_of_ble_eq_true rfl) rfl dX5_node_1 ⟨Nat.zero_le _, Nat.zero_le _⟩ (fun H locs hP hS => ?_)
  refine lv_if_eq (tgt := 15) hx hb dX5_node_4 (by decide) (fun c_2 => ?_) (fun c_2 => ?_)
  · have hM := on_pos c_2 hM
    refine lv_iconst (v := -1) hx hb dX5_node_15 (by decide) ?_
    have hM := Option.some.inj hM
    subst hM
    rw [← hQ]
    exact on_iret hx hb hr hlk hP hD hS dX5_node_16
  · have hM := on_neg c_2 hM
    refine lv_aload_n hx hb dX5_node_7 rfl (lv_at hl 0 rfl) ?_
    refine lv_iload_n hx hb dX5_node_8 rfl (lv_at hl 2 rfl) ?_
    obtain ⟨q_3, hq_3, hM⟩ := on_bind hM
    refine on_callV (rest := []) (As := [.int v2]) (st1 := [.int q_3]) (C := RX5) (ci := 5) (q0 := 0) (wc := [(h_t, .inr (5, [.ref h_t_now, .ref h_t_images, .ref h_t_pad, .ref h_t_net, .ref h_t_second, .ref h_t_renumbering, .ref h_t_table, .ref h_t_marks])), (h_t_now, .inr (3, [.int t_now_many, .ref h_t_now_numbers]))]) (wr := [(h_t_now_numbers, .inl (cI, 3, .inl t_now_numbers)), (h_t_net, .inr (0, [.int t_net_many, .ref h_t_net_rows])), (h_t_net_rows, .inl (cI, 7, .inl t_net_rows))]) (wc' := [(h_t, .inr (5, [.ref h_t_now, .ref h_t_images, .ref h_t_pad, .ref h_t_net, .ref h_t_second, .ref h_t_renumbering, .ref h_t_table, .ref h_t_marks])), (h_t_now, .inr (3, [.int t_now_many, .ref h_t_now_numbers]))]) (wf := [(h_t, .inr (5, [.ref h_t_now, .ref h_t_images, .ref h_t_pad, .ref h_t_net, .ref h_t_second, .ref h_t_renumbering, .ref h_t_table, .ref h_t_marks])), (h_t_now, .inr (3, [.int t_now_many, .ref h_t_now_numbers])), (h_t_now_numbers, .inl (cI, 3, .inl t_now_numbers)), (h_t_net, .inr (0, [.int t_net_many, .ref h_t_net_rows])), (h_t_net_rows, .inl (cI, 7, .inl t_net_rows))]) (rt := (some (.int q_3))) ⟨hx, hb, hml, hown, hts⟩ (k_X5_isNode h_t h_t_now h_t_images h_t_pad h_t_net h_t_second h_t_renumbering h_t_table h_t_marks h_t_now_numbers t_now_many v2 q_3 hq_3) (cwV 1 hts gX5_node_X5_isNode rfl rfl rfl ⟨rfl, hdX5_isNode⟩ ⟨(Nat.le_of_ble_eq_true rfl), (Nat.le_of_ble_eq_true rfl)⟩) hK hN hP hD hS hA [0, 1] [2, 3, 4] [3, 4, 0, 1, 2] rfl rfl rfl rfl (by decide) rfl rfl rfl rfl rfl rfl hl.1 rfl (Nat.le_of_ble_eq_true rfl) rfl dX5_node_9 ⟨Nat.zero_le _, Nat.zero_le _⟩ (fun H locs hP hD hS => ?_)
    refine lv_if_ne (tgt := 17) hx hb dX5_node_12 (by decide) (fun c_4 => ?_) (fun c_4 => ?_)
    · have hM := on_neg c_4 hM
      refine lv_aload_n hx hb dX5_node_17 rfl (lv_at hl 0 rfl) ?_
      refine lv_aload_n hx hb dX5_node_18 rfl (lv_at hl 0 rfl) ?_
      refine va_get (D := D) (ci := 5) (v := .ref h_t_net) (C := RX5) (T := TX5) (N := 8) hx hb hts w2 hown hK hP 0 rfl rfl 3 (by decide) w1 (fun _ h9 => h9) rfl dX5_node_19 ?_
      refine lv_iload_n hx hb dX5_node_22 rfl (lv_at hl 1 rfl) ?_
      obtain ⟨q_5, hq_5, hM⟩ := on_bind hM
      refine on_callV (rest := []) (As := [.ref h_t_net, .int v1]) (st1 := []) (C := RX5) (ci := 5) (q0 := 0) (wc := [(h_t, .inr (5, [.ref h_t_now, .ref h_t_images, .ref h_t_pad, .ref h_t_net, .ref h_t_second, .ref h_t_renumbering, .ref h_t_table, .ref h_t_marks])), (h_t_now, .inr (3, [.int t_now_many, .ref h_t_now_numbers])), (h_t_now_numbers, .inl (cI, 3, .inl t_now_numbers)), (h_t_net, .inr (0, [.int t_net_many, .ref h_t_net_rows])), (h_t_net_rows, .inl (cI, 7, .inl t_net_rows))]) (wr := []) (wc' := [(h_t, .inr (5, [.ref h_t_now, .ref h_t_images, .ref h_t_pad, .ref h_t_net, .ref h_t_second, .ref h_t_renumbering, .ref h_t_table, .ref h_t_marks])), (h_t_now, .inr (3, [.int t_now_many, .ref h_t_now_numbers])), (h_t_now_numbers, .inl (cI, 3, .inl t_now_numbers)), (h_t_net, .inr (0, [.int q_5.1, .ref h_t_net_rows])), (h_t_net_rows, .inl (cI, 7, .inl q_5.2))]) (wf := [(h_t, .inr (5, [.ref h_t_now, .ref h_t_images, .ref h_t_pad, .ref h_t_net, .ref h_t_second, .ref h_t_renumbering, .ref h_t_table, .ref h_t_marks])), (h_t_now, .inr (3, [.int t_now_many, .ref h_t_now_numbers])), (h_t_now_numbers, .inl (cI, 3, .inl t_now_numbers)), (h_t_net, .inr (0, [.int q_5.1, .ref h_t_net_rows])), (h_t_net_rows, .inl (cI, 7, .inl q_5.2))]) (rt := none) ⟨hx, hb, hml, hown, hts⟩ (k_X5_load h_t h_t_now h_t_images h_t_pad h_t_net h_t_second h_t_renumbering h_t_table h_t_marks h_t_now_numbers h_t_net h_t_net_rows t_now_many t_now_numbers t_net_many t_net_rows v1 q_5 hq_5) (cwV 2 hts gX5_node_X5_load rfl rfl rfl ⟨rfl, hdX5_load⟩ ⟨(Nat.le_of_ble_eq_true rfl), (Nat.le_of_ble_eq_true rfl)⟩) hK hN hP hD hS hA [0, 1, 2, 3, 4] [] [0, 1, 2, 3, 4] rfl rfl rfl rfl (by decide) rfl rfl rfl rfl rfl rfl hl.1 rfl (Nat.le_of_ble_eq_true rfl) rfl dX5_node_23 ⟨Nat.zero_le _, Nat.zero_le _⟩ (fun H locs hP hD hS => ?_)
      refine lv_iload_n hx hb dX5_node_26 rfl (lv_at hl 3 rfl) ?_
      by_cases c_13 : v3 = 0
      · have hM := on_pos c_13 hM
        refine lv_tableIn (tgt := 56) hx hb dX5_node_27 (by rw [c_13]; decide) (by rw [c_13]; decide) (by rw [c_13]; rfl) (by decide) ?_
        refine lv_aload_n hx hb dX5_node_56 rfl (lv_at hl 0 rfl) ?_
        refine va_get (D := D) (ci := 5) (v := .ref h_t_net) (C := RX5) (T := TX5) (N := 8) hx hb hts w2 hown hK hP 0 rfl rfl 3 (by decide) w1 (fun _ h9 => h9) rfl dX5_node_57 ?_
        refine lv_iload_n hx hb dX5_node_60 rfl (lv_at hl 2 rfl) ?_
        obtain ⟨q_6, hq_6, hM⟩ := on_bind hM
        refine on_callVN (rest := []) (As := [.int v2]) (st1 := [.int q_6]) (C := RX0) (ci := 0) (q0 := 3) (wc := [(h_t_net, .inr (0, [.int q_5.1, .ref h_t_net_rows])), (h_t_net_rows, .inl (cI, 7, .inl q_5.2))]) (wr := [(h_t, .inr (5, [.ref h_t_now, .ref h_t_images, .ref h_t_pad, .ref h_t_net, .ref h_t_second, .ref h_t_renumbering, .ref h_t_table, .ref h_t_marks])), (h_t_now, .inr (3, [.int t_now_many, .ref h_t_now_numbers])), (h_t_now_numbers, .inl (cI, 3, .inl t_now_numbers))]) (wc' := [(h_t_net, .inr (0, [.int q_5.1, .ref h_t_net_rows])), (h_t_net_rows, .inl (cI, 7, .inl q_5.2))]) (wf := [(h_t, .inr (5, [.ref h_t_now, .ref h_t_images, .ref h_t_pad, .ref h_t_net, .ref h_t_second, .ref h_t_renumbering, .ref h_t_table, .ref h_t_marks])), (h_t_now, .inr (3, [.int t_now_many, .ref h_t_now_numbers])), (h_t_now_numbers, .inl (cI, 3, .inl t_now_numbers)), (h_t_net, .inr (0, [.int q_5.1, .ref h_t_net_rows])), (h_t_net_rows, .inl (cI, 7, .inl q_5.2))]) (rt := (some (.int q_6))) ⟨hx, hb, hml, hown, hts⟩ (k_X0_degree h_t_net h_t_net_rows q_5.1 q_5.2 v2 q_6 hq_6) ⟨va_cnB 1 hts gX5_node_X0_degree_n129 rfl rfl rfl (hN _ (List.mem_of_getElem? (i := 30) rfl)) w3 hdX0_degree ⟨(Nat.le_of_ble_eq_true rfl), (Nat.le_of_ble_eq_true rfl)⟩, w4, w5⟩ hK hN hP hD hS hA [3, 4] [0, 1, 2] [0, 1, 2, 3, 4] rfl rfl rfl rfl (by decide) rfl rfl rfl rfl rfl rfl hl.1 rfl (Nat.le_of_ble_eq_true rfl) rfl dX5_node_61 ⟨Nat.zero_le _, Nat.zero_le _⟩ (fun H locs hP hD hS => ?_)
        have hM := Option.some.inj hM
        subst hM
        rw [← hQ]
        exact on_iret hx hb hr hlk hP hD hS dX5_node_64
      · have hM := on_neg c_13 hM
        by_cases c_14 : v3 = 1
        · have hM := on_pos c_14 hM
          refine lv_tableIn (tgt := 65) hx hb dX5_node_27 (by rw [c_14]; decide) (by rw [c_14]; decide) (by rw [c_14]; rfl) (by decide) ?_
          refine lv_aload_n hx hb dX5_node_65 rfl (lv_at hl 0 rfl) ?_
          refine va_get (D := D) (ci := 5) (v := .ref h_t_net) (C := RX5) (T := TX5) (N := 8) hx hb hts w2 hown hK hP 0 rfl rfl 3 (by decide) w1 (fun _ h9 => h9) rfl dX5_node_66 ?_
          refine lv_iload_n hx hb dX5_node_69 rfl (lv_at hl 2 rfl) ?_
          obtain ⟨q_7, hq_7, hM⟩ := on_bind hM
          refine on_callVN (rest := []) (As := [.int v2]) (st1 := [.int q_7]) (C := RX0) (ci := 0) (q0 := 3) (wc := [(h_t_net, .inr (0, [.int q_5.1, .ref h_t_net_rows])), (h_t_net_rows, .inl (cI, 7, .inl q_5.2))]) (wr := [(h_t, .inr (5, [.ref h_t_now, .ref h_t_images, .ref h_t_pad, .ref h_t_net, .ref h_t_second, .ref h_t_renumbering, .ref h_t_table, .ref h_t_marks])), (h_t_now, .inr (3, [.int t_now_many, .ref h_t_now_numbers])), (h_t_now_numbers, .inl (cI, 3, .inl t_now_numbers))]) (wc' := [(h_t_net, .inr (0, [.int q_5.1, .ref h_t_net_rows])), (h_t_net_rows, .inl (cI, 7, .inl q_5.2))]) (wf := [(h_t, .inr (5, [.ref h_t_now, .ref h_t_images, .ref h_t_pad, .ref h_t_net, .ref h_t_second, .ref h_t_renumbering, .ref h_t_table, .ref h_t_marks])), (h_t_now, .inr (3, [.int t_now_many, .ref h_t_now_numbers])), (h_t_now_numbers, .inl (cI, 3, .inl t_now_numbers)), (h_t_net, .inr (0, [.int q_5.1, .ref h_t_net_rows])), (h_t_net_rows, .inl (cI, 7, .inl q_5.2))]) (rt := (some (.int q_7))) ⟨hx, hb, hml, hown, hts⟩ (k_X0_oddTriplesAtNode h_t_net h_t_net_rows q_5.1 q_5.2 v2 q_7 hq_7) ⟨va_cnB 1 hts gX5_node_X0_oddTriplesAtNode_n132 rfl rfl rfl (hN _ (List.mem_of_getElem? (i := 31) rfl)) w3 hdX0_oddTriplesAtNode ⟨(Nat.le_of_ble_eq_true rfl), (Nat.le_of_ble_eq_true rfl)⟩, w6, w7⟩ hK hN hP hD hS hA [3, 4] [0, 1, 2] [0, 1, 2, 3, 4] rfl rfl rfl rfl (by decide) rfl rfl rfl rfl rfl rfl hl.1 rfl (Nat.le_of_ble_eq_true rfl) rfl dX5_node_70 ⟨Nat.zero_le _, Nat.zero_le _⟩ (fun H locs hP hD hS => ?_)
          have hM := Option.some.inj hM
          subst hM
          rw [← hQ]
          exact on_iret hx hb hr hlk hP hD hS dX5_node_73
        · have hM := on_neg c_14 hM
          by_cases c_15 : v3 = 2
          · have hM := on_pos c_15 hM
            refine lv_tableIn (tgt := 74) hx hb dX5_node_27 (by rw [c_15]; decide) (by rw [c_15]; decide) (by rw [c_15]; rfl) (by decide) ?_
            refine lv_aload_n hx hb dX5_node_74 rfl (lv_at hl 0 rfl) ?_
            refine va_get (D := D) (ci := 5) (v := .ref h_t_net) (C := RX5) (T := TX5) (N := 8) hx hb hts w2 hown hK hP 0 rfl rfl 3 (by decide) w1 (fun _ h9 => h9) rfl dX5_node_75 ?_
            refine lv_iload_n hx hb dX5_node_78 rfl (lv_at hl 2 rfl) ?_
            obtain ⟨q_8, hq_8, hM⟩ := on_bind hM
            refine on_callVN (rest := []) (As := [.int v2]) (st1 := []) (C := RX0) (ci := 0) (q0 := 3) (wc := [(h_t_net, .inr (0, [.int q_5.1, .ref h_t_net_rows])), (h_t_net_rows, .inl (cI, 7, .inl q_5.2))]) (wr := [(h_t, .inr (5, [.ref h_t_now, .ref h_t_images, .ref h_t_pad, .ref h_t_net, .ref h_t_second, .ref h_t_renumbering, .ref h_t_table, .ref h_t_marks])), (h_t_now, .inr (3, [.int t_now_many, .ref h_t_now_numbers])), (h_t_now_numbers, .inl (cI, 3, .inl t_now_numbers))]) (wc' := [(h_t_net, .inr (0, [.int q_5.1, .ref h_t_net_rows])), (h_t_net_rows, .inl (cI, 7, .inl q_8))]) (wf := [(h_t, .inr (5, [.ref h_t_now, .ref h_t_images, .ref h_t_pad, .ref h_t_net, .ref h_t_second, .ref h_t_renumbering, .ref h_t_table, .ref h_t_marks])), (h_t_now, .inr (3, [.int t_now_many, .ref h_t_now_numbers])), (h_t_now_numbers, .inl (cI, 3, .inl t_now_numbers)), (h_t_net, .inr (0, [.int q_5.1, .ref h_t_net_rows])), (h_t_net_rows, .inl (cI, 7, .inl q_8))]) (rt := none) ⟨hx, hb, hml, hown, hts⟩ (k_X0_leaveAlone h_t_net h_t_net_rows q_5.1 q_5.2 v2 q_8 hq_8) ⟨va_cnB 1 hts gX5_node_X0_leaveAlone_n135 rfl rfl rfl (hN _ (List.mem_of_getElem? (i := 32) rfl)) w3 hdX0_leaveAlone ⟨(Nat.le_of_ble_eq_true rfl), (Nat.le_of_ble_eq_true rfl)⟩, w8, w9⟩ hK hN hP hD hS hA [3, 4] [0, 1, 2] [0, 1, 2, 3, 4] rfl rfl rfl rfl (by decide) rfl rfl rfl rfl rfl rfl hl.1 rfl (Nat.le_of_ble_eq_true rfl) rfl dX5_node_79 ⟨Nat.zero_le _, Nat.zero_le _⟩ (fun H locs hP hD hS => ?_)
            refine lv_aload_n hx hb dX5_node_82 rfl (lv_at hl 0 rfl) ?_
            refine va_get (D := D) (ci := 5) (v := .ref h_t_net) (C := RX5) (T := TX5) (N := 8) hx hb hts w2 hown hK hP 0 rfl rfl 3 (by decide) w1 (fun _ h9 => h9) rfl dX5_node_83 ?_
            obtain ⟨q_9, hq_9, hM⟩ := on_bind hM
            refine on_callVN (rest := []) (As := []) (st1 := [.int q_9]) (C := RX0) (ci := 0) (q0 := 3) (wc := [(h_t_net, .inr (0, [.int q_5.1, .ref h_t_net_rows])), (h_t_net_rows, .inl (cI, 7, .inl q_8))]) (wr := [(h_t, .inr (5, [.ref h_t_now, .ref h_t_images, .ref h_t_pad, .ref h_t_net, .ref h_t_second, .ref h_t_renumbering, .ref h_t_table, .ref h_t_marks])), (h_t_now, .inr (3, [.int t_now_many, .ref h_t_now_numbers])), (h_t_now_numbers, .inl (cI, 3, .inl t_now_numbers))]) (wc' := [(h_t_net, .inr (0, [.int q_5.1, .ref h_t_net_rows])), (h_t_net_rows, .inl (cI, 7, .inl q_8))]) (wf := [(h_t, .inr (5, [.ref h_t_now, .ref h_t_images, .ref h_t_pad, .ref h_t_net, .ref h_t_second, .ref h_t_renumbering, .ref h_t_table, .ref h_t_marks])), (h_t_now, .inr (3, [.int t_now_many, .ref h_t_now_numbers])), (h_t_now_numbers, .inl (cI, 3, .inl t_now_numbers)), (h_t_net, .inr (0, [.int q_5.1, .ref h_t_net_rows])), (h_t_net_rows, .inl (cI, 7, .inl q_8))]) (rt := (some (.int q_9))) ⟨hx, hb, hml, hown, hts⟩ (k_X0_number h_t_net h_t_net_rows q_5.1 q_8 q_9 hq_9) ⟨va_cnB 0 hts gX5_node_X0_number_n85 rfl rfl rfl (hN _ (List.mem_of_getElem? (i := 19) rfl)) w3 hdX0_number ⟨(Nat.le_of_ble_eq_true rfl), (Nat.le_of_ble_eq_true rfl)⟩, w10, w11⟩ hK hN hP hD hS hA [3, 4] [0, 1, 2] [0, 1, 2, 3, 4] rfl rfl rfl rfl (by decide) rfl rfl rfl rfl rfl rfl hl.1 rfl (Nat.le_of_ble_eq_true rfl) rfl dX5_node_86 ⟨Nat.zero_le _, Nat.zero_le _⟩ (fun H locs hP hD hS => ?_)
            have hM := Option.some.inj hM
            subst hM
            rw [← hQ]
            exact on_iret hx hb hr hlk hP hD hS dX5_node_89
          · have hM := on_neg c_15 hM
            by_cases c_16 : v3 = 3
            · have hM := on_pos c_16 hM
              refine lv_tableIn (tgt := 90) hx hb dX5_node_27 (by rw [c_16]; decide) (by rw [c_16]; decide) (by rw [c_16]; rfl) (by decide) ?_
              refine lv_aload_n hx hb dX5_node_90 rfl (lv_at hl 0 rfl) ?_
              refine va_get (D := D) (ci := 5) (v := .ref h_t_net) (C := RX5) (T := TX5) (N := 8) hx hb hts w2 hown hK hP 0 rfl rfl 3 (by decide) w1 (fun _ h9 => h9) rfl dX5_node_91 ?_
              refine lv_iload_n hx hb dX5_node_94 rfl (lv_at hl 2 rfl) ?_
              obtain ⟨q_10, hq_10, hM⟩ := on_bind hM
              refine on_callVN (rest := []) (As := [.int v2]) (st1 := []) (C := RX0) (ci := 0) (q0 := 3) (wc := [(h_t_net, .inr (0, [.int q_5.1, .ref h_t_net_rows])), (h_t_net_rows, .inl (cI, 7, .inl q_5.2))]) (wr := [(h_t, .inr (5, [.ref h_t_now, .ref h_t_images, .ref h_t_pad, .ref h_t_net, .ref h_t_second, .ref h_t_renumbering, .ref h_t_table, .ref h_t_marks])), (h_t_now, .inr (3, [.int t_now_many, .ref h_t_now_numbers])), (h_t_now_numbers, .inl (cI, 3, .inl t_now_numbers))]) (wc' := [(h_t_net, .inr (0, [.int q_5.1, .ref h_t_net_rows])), (h_t_net_rows, .inl (cI, 7, .inl q_10))]) (wf := [(h_t, .inr (5, [.ref h_t_now, .ref h_t_images, .ref h_t_pad, .ref h_t_net, .ref h_t_second, .ref h_t_renumbering, .ref h_t_table, .ref h_t_marks])), (h_t_now, .inr (3, [.int t_now_many, .ref h_t_now_numbers])), (h_t_now_numbers, .inl (cI, 3, .inl t_now_numbers)), (h_t_net, .inr (0, [.int q_5.1, .ref h_t_net_rows])), (h_t_net_rows, .inl (cI, 7, .inl q_10))]) (rt := none) ⟨hx, hb, hml, hown, hts⟩ (k_X0_leaveAlone h_t_net h_t_net_rows q_5.1 q_5.2 v2 q_10 hq_10) ⟨va_cnB 1 hts gX5_node_X0_leaveAlone_n135 rfl rfl rfl (hN _ (List.mem_of_getElem? (i := 32) rfl)) w3 hdX0_leaveAlone ⟨(Nat.le_of_ble_eq_true rfl), (Nat.le_of_ble_eq_true rfl)⟩, w8, w9⟩ hK hN hP hD hS hA [3, 4] [0, 1, 2] [0, 1, 2, 3, 4] rfl rfl rfl rfl (by decide) rfl rfl rfl rfl rfl rfl hl.1 rfl (Nat.le_of_ble_eq_true rfl) rfl dX5_node_95 ⟨Nat.zero_le _, Nat.zero_le _⟩ (fun H locs hP hD hS => ?_)
              refine lv_aload_n hx hb dX5_node_98 rfl (lv_at hl 0 rfl) ?_
              refine va_get (D := D) (ci := 5) (v := .ref h_t_net) (C := RX5) (T := TX5) (N := 8) hx hb hts w2 hown hK hP 0 rfl rfl 3 (by decide) w1 (fun _ h9 => h9) rfl dX5_node_99 ?_
              refine lv_iload_n hx hb dX5_node_102 rfl (lv_at hl 2 rfl) ?_
              obtain ⟨q_11, hq_11, hM⟩ := on_bind hM
              refine on_callVN (rest := []) (As := [.int v2]) (st1 := []) (C := RX0) (ci := 0) (q0 := 3) (wc := [(h_t_net, .inr (0, [.int q_5.1, .ref h_t_net_rows])), (h_t_net_rows, .inl (cI, 7, .inl q_10))]) (wr := [(h_t, .inr (5, [.ref h_t_now, .ref h_t_images, .ref h_t_pad, .ref h_t_net, .ref h_t_second, .ref h_t_renumbering, .ref h_t_table, .ref h_t_marks])), (h_t_now, .inr (3, [.int t_now_many, .ref h_t_now_numbers])), (h_t_now_numbers, .inl (cI, 3, .inl t_now_numbers))]) (wc' := [(h_t_net, .inr (0, [.int q_11.1, .ref h_t_net_rows])), (h_t_net_rows, .inl (cI, 7, .inl q_11.2))]) (wf := [(h_t, .inr (5, [.ref h_t_now, .ref h_t_images, .ref h_t_pad, .ref h_t_net, .ref h_t_second, .ref h_t_renumbering, .ref h_t_table, .ref h_t_marks])), (h_t_now, .inr (3, [.int t_now_many, .ref h_t_now_numbers])), (h_t_now_numbers, .inl (cI, 3, .inl t_now_numbers)), (h_t_net, .inr (0, [.int q_11.1, .ref h_t_net_rows])), (h_t_net_rows, .inl (cI, 7, .inl q_11.2))]) (rt := none) ⟨hx, hb, hml, hown, hts⟩ (k_X0_drop h_t_net h_t_net_rows q_5.1 q_10 v2 q_11 hq_11) ⟨va_cnB 1 hts gX5_node_X0_drop_n138 rfl rfl rfl (hN _ (List.mem_of_getElem? (i := 33) rfl)) w3 hdX0_drop ⟨(Nat.le_of_ble_eq_true rfl), (Nat.le_of_ble_eq_true rfl)⟩, w12, w13⟩ hK hN hP hD hS hA [3, 4] [0, 1, 2] [0, 1, 2, 3, 4] rfl rfl rfl rfl (by decide) rfl rfl rfl rfl rfl rfl hl.1 rfl (Nat.le_of_ble_eq_true rfl) rfl dX5_node_103 ⟨Nat.zero_le _, Nat.zero_le _⟩ (fun H locs hP hD hS => ?_)
              refine lv_aload_n hx hb dX5_node_106 rfl (lv_at hl 0 rfl) ?_
              refine va_get (D := D) (ci := 5) (v := .ref h_t_net) (C := RX5) (T := TX5) (N := 8) hx hb hts w2 hown hK hP 0 rfl rfl 3 (by decide) w1 (fun _ h9 => h9) rfl dX5_node_107 ?_
              obtain ⟨q_12, hq_12, hM⟩ := on_bind hM
              refine on_callVN (rest := []) (As := []) (st1 := [.int q_12]) (C := RX0) (ci := 0) (q0 := 3) (wc := [(h_t_net, .inr (0, [.int q_11.1, .ref h_t_net_rows])), (h_t_net_rows, .inl (cI, 7, .inl q_11.2))]) (wr := [(h_t, .inr (5, [.ref h_t_now, .ref h_t_images, .ref h_t_pad, .ref h_t_net, .ref h_t_second, .ref h_t_renumbering, .ref h_t_table, .ref h_t_marks])), (h_t_now, .inr (3, [.int t_now_many, .ref h_t_now_numbers])), (h_t_now_numbers, .inl (cI, 3, .inl t_now_numbers))]) (wc' := [(h_t_net, .inr (0, [.int q_11.1, .ref h_t_net_rows])), (h_t_net_rows, .inl (cI, 7, .inl q_11.2))]) (wf := [(h_t, .inr (5, [.ref h_t_now, .ref h_t_images, .ref h_t_pad, .ref h_t_net, .ref h_t_second, .ref h_t_renumbering, .ref h_t_table, .ref h_t_marks])), (h_t_now, .inr (3, [.int t_now_many, .ref h_t_now_numbers])), (h_t_now_numbers, .inl (cI, 3, .inl t_now_numbers)), (h_t_net, .inr (0, [.int q_11.1, .ref h_t_net_rows])), (h_t_net_rows, .inl (cI, 7, .inl q_11.2))]) (rt := (some (.int q_12))) ⟨hx, hb, hml, hown, hts⟩ (k_X0_number h_t_net h_t_net_rows q_11.1 q_11.2 q_12 hq_12) ⟨va_cnB 0 hts gX5_node_X0_number_n85 rfl rfl rfl (hN _ (List.mem_of_getElem? (i := 19) rfl)) w3 hdX0_number ⟨(Nat.le_of_ble_eq_true rfl), (Nat.le_of_ble_eq_true rfl)⟩, w10, w11⟩ hK hN hP hD hS hA [3, 4] [0, 1, 2] [0, 1, 2, 3, 4] rfl rfl rfl rfl (by decide) rfl rfl rfl rfl rfl rfl hl.1 rfl (Nat.le_of_ble_eq_true rfl) rfl dX5_node_110 ⟨Nat.zero_le _, Nat.zero_le _⟩ (fun H locs hP hD hS => ?_)
              have hM := Option.some.inj hM
              subst hM
              rw [← hQ]
              exact on_iret hx hb hr hlk hP hD hS dX5_node_113
            · have hM := on_neg c_16 hM
              refine lv_tableOut (tgt := 114) hx hb dX5_node_27 (on_swOut (n := 4) (fun k hk => by rcases (show k = 0 ∨ k = 1 ∨ k = 2 ∨ k = 3 by omega) with rfl | rfl | rfl | rfl <;> first | exact c_13 | exact c_14 | exact c_15 | exact c_16) (by decide)) (by decide) ?_
              refine lv_bipush (v := -2) hx hb dX5_node_114 (by decide) ?_
              have hM := Option.some.inj hM
              subst hM
              rw [← hQ]
              exact on_iret hx hb hr hlk hP hD hS dX5_node_116
    · have hM := on_pos c_4 hM
      refine lv_iconst (v := -1) hx hb dX5_node_15 (by decide) ?_
      have hM := Option.some.inj hM
      subst hM
      rw [← hQ]
      exact on_iret hx hb hr hlk hP hD hS dX5_node_16
abbrev rm_X0_shared : Room := { frames := 1, cells := 0, slots := 0, locals := 20 }
set_option maxHeartbeats 4000000 in
set_option maxRecDepth 100000 in
theorem k_X0_shared {l : Launch} {D : va_G} {cI cJ cZ cS cA : ClassId} (h_t : Nat) (h_t_rows : Nat) (t_many : Int32) (t_rows : Nat → Int32) (v1 : Int32) (v2 : Int32) (out : Int32) (hM : M_X0_shared v1 v2 t_rows = some out) : on_Con l yX0_shared wsX0_shared rm_X0_shared [.ref h_t, .int v1, .int v2] D (on_T cI cJ cZ cS cA) [(h_t, .inr (0, [.int t_many, .ref h_t_rows])), (h_t_rows, .inl (cI, 7, .inl t_rows))] (some (.int out)) [(h_t, .inr (0, [.int t_many, .ref h_t_rows])), (h_t_rows, .inl (cI, 7, .inl t_rows))] := by
  unfold M_X0_shared at hM
  refine on_enter (cc := cX0_shared) (nL := 3) (rt := (some .int)) (own := RX0) (by decide +kernel) rfl rfl (Nat.le_of_ble_eq_true rfl) ?_
  intro p e s m below meth c A ls hx hb hml hr hlk hts hown hA hK hN H locs hP hD hS hl
  have hl : lv_has ls 3 [(0, .ref h_t), (1, .int v1), (2, .int v2)] := hl
  generalize hQ : MQ below (on_Q D (some (.int out)) [(h_t, .inr (0, [.int t_many, .ref h_t_rows])), (h_t_rows, .inl (cI, 7, .inl t_rows))] A) _ s 0 0 A = Q
  generalize hAr : List.toArray ([.ref h_t, .int v1, .int v2] : List Value) = args at hts hQ ⊢
  have w1 := hts (.fieldLink RX0 15 "OddNets$Net" "rows" "[I") (by decide +kernel)
  have w2 : ∀ w ∈ wsX00, w ∈ wsX0_shared := by decide +kernel
  refine lv_aload_n hx hb dX0_shared_0 rfl (lv_at hl 0 rfl) ?_
  refine va_get (D := D) (ci := 0) (v := .ref h_t_rows) (C := RX0) (T := TX0) (N := 2) hx hb hts w2 hown hK hP 0 rfl rfl 1 (by decide) w1 (fun _ h9 => h9) rfl dX0_shared_1 ?_
  refine lv_iload_n hx hb dX0_shared_4 rfl (lv_at hl 1 rfl) ?_
  obtain ⟨g_1, hM⟩ := on_gdE hM
  refine va_iald hx hb hK hP 1 0 rfl rfl (on_ixE g_1) dX0_shared_5 ?_
  refine lv_aload_n hx hb dX0_shared_6 rfl (lv_at hl 0 rfl) ?_
  refine va_get (D := D) (ci := 0) (v := .ref h_t_rows) (C := RX0) (T := TX0) (N := 2) hx hb hts w2 hown hK hP 0 rfl rfl 1 (by decide) w1 (fun _ h9 => h9) rfl dX0_shared_7 ?_
  refine lv_iload_n hx hb dX0_shared_10 rfl (lv_at hl 2 rfl) ?_
  obtain ⟨g_2, hM⟩ := on_gdE hM
  refine va_iald hx hb hK hP 1 0 rfl rfl (on_ixE g_2) dX0_shared_11 ?_
  refine lv_iand hx hb dX0_shared_12 ?_
  obtain ⟨q_3, hq_3, hM⟩ := on_bind hM
  refine on_callS0 (rest := []) (As := [.int ((t_rows (Int32.toNatClampNeg v1)) &&& (t_rows (Int32.toNatClampNeg v2)))]) (st1 := [.int q_3]) ⟨hx, hb, hml, hown, hts⟩ (k_J6_bitCount_0f7a4 ((t_rows (Int32.toNatClampNeg v1)) &&& (t_rows (Int32.toNatClampNeg v2))) q_3 hq_3) (va_cwS 1 hts gX0_shared_J6_bitCount_0f7a4 rfl rfl rfl hdJ6_bitCount_0f7a4 ⟨(Nat.le_of_ble_eq_true rfl), (Nat.le_of_ble_eq_true rfl)⟩) hK hN hP hD hS hA rfl hl.1 rfl (Nat.le_of_ble_eq_true rfl) rfl dX0_shared_13 ⟨Nat.zero_le _, Nat.zero_le _⟩ (fun H locs hP hS => ?_)
  have hM := Option.some.inj hM
  subst hM
  rw [← hQ]
  exact on_iret hx hb hr hlk hP hD hS dX0_shared_16
abbrev rm_X5_pair : Room := { frames := 3, cells := 0, slots := 0, locals := 69 }
set_option maxHeartbeats 4000000 in
set_option maxRecDepth 100000 in
theorem k_X5_pair {l : Launch} {D : va_G} {cI cJ cZ cS cA : ClassId} (h_t : Nat) (h_t_now : Nat) (h_t_images : Nat) (h_t_pad : Nat) (h_t_net : Nat) (h_t_second : Nat) (h_t_renumbering : Nat) (h_t_table : Nat) (h_t_marks : Nat) (h_t_now_numbers : Nat) (h_t_net_rows : Nat) (t_now_many : Int32) (t_now_numbers : Nat → Int32) (t_net_many : Int32) (t_net_rows : Nat → Int32) (v1 : Int32) (v2 : Int32) (v3 : Int32) (v4 : Int32) (out : Int32 × Int32 × (Nat → Int32)) (hM : M_X5_pair v1 v2 v3 v4 t_now_many t_now_numbers t_net_many t_net_rows = some out) : on_Con l yX5_pair wsX5_pair rm_X5_pair [.ref h_t, .int v1, .int v2, .int v3, .int v4] D (on_T cI cJ cZ cS cA) [(h_t, .inr (5, [.ref h_t_now, .ref h_t_images, .ref h_t_pad, .ref h_t_net, .ref h_t_second, .ref h_t_renumbering, .ref h_t_table, .ref h_t_marks])), (h_t_now, .inr (3, [.int t_now_many, .ref h_t_now_numbers])), (h_t_now_numbers, .inl (cI, 3, .inl t_now_numbers)), (h_t_net, .inr (0, [.int t_net_many, .ref h_t_net_rows])), (h_t_net_rows, .inl (cI, 7, .inl t_net_rows))] (some (.int out.1)) [(h_t, .inr (5, [.ref h_t_now, .ref h_t_images, .ref h_t_pad, .ref h_t_net, .ref h_t_second, .ref h_t_renumbering, .ref h_t_table, .ref h_t_marks])), (h_t_now, .inr (3, [.int t_now_many, .ref h_t_now_numbers])), (h_t_now_numbers, .inl (cI, 3, .inl t_now_numbers)), (h_t_net, .inr (0, [.int out.2.1, .ref h_t_net_rows])), (h_t_net_rows, .inl (cI, 7, .inl out.2.2))] := by
  unfold M_X5_pair at hM
  refine on_enter (cc := cX5_pair) (nL := 5) (rt := (some .int)) (own := RX5) (by decide +kernel) rfl rfl (Nat.le_of_ble_eq_true rfl) ?_
  intro p e s m below meth c A ls hx hb hml hr hlk hts hown hA hK hN H locs hP hD hS hl
  have hl : lv_has ls 5 [(0, .ref h_t), (1, .int v1), (2, .int v2), (3, .int v3), (4, .int v4)] := hl
  generalize hQ : MQ below (on_Q D (some (.int out.1)) [(h_t, .inr (5, [.ref h_t_now, .ref h_t_images, .ref h_t_pad, .ref h_t_net, .ref h_t_second, .ref h_t_renumbering, .ref h_t_table, .ref h_t_marks])), (h_t_now, .inr (3, [.int t_now_many, .ref h_t_now_numbers])), (h_t_now_numbers, .inl (cI, 3, .inl t_now_numbers)), (h_t_net, .inr (0, [.int out.2.1, .ref h_t_net_rows])), (h_t_net_rows, .inl (cI, 7, .inl out.2.2))] A) _ s 0 0 A = Q
  generalize hAr : List.toArray ([.ref h_t, .int v1, .int v2, .int v3, .int v4] : List Value) = args at hts hQ ⊢
  have w1 := hts (.fieldLink RX5 30 "OddNets" "net" "LOddNets$Net;") (by decide +kernel)
  have w2 : ∀ w ∈ wsX50, w ∈ wsX5_pair := by decide +kernel
  have w3 := hts (.initialized RX0) (by decide +kernel)
  have w4 := hts (.instanceMethod yX0_joined) (by decide +kernel)
  have w5 := hts (.selects RX0 yX0_joined yX0_joined) (by decide +kernel)
  have w6 := hts (.instanceMethod yX0_oddTriplesAtPair) (by decide +kernel)
  have w7 := hts (.selects RX0 yX0_oddTriplesAtPair yX0_oddTriplesAtPair) (by decide +kernel)
  have w8 := hts (.instanceMethod yX0_shared) (by decide +kernel)
  have w9 := hts (.selects RX0 yX0_shared yX0_shared) (by decide +kernel)
  refine lv_iload_n hx hb dX5_pair_0 rfl (lv_at hl 1 rfl) ?_
  obtain ⟨q_1, hq_1, hM⟩ := on_bind hM
  refine on_callS0 (rest := []) (As := [.int v1]) (st1 := [.int q_1]) ⟨hx, hb, hml, hown, hts⟩ (k_X5_isSlot v1 q_1 hq_1) (va_cwS 1 hts gX5_pair_X5_isSlot rfl rfl rfl hdX5_isSlot ⟨(Nat.le_of_ble_eq_true rfl), (Nat.le_of_ble_eq_true rfl)⟩) hK hN hP hD hS hA rfl hl.1 rfl (Nat.le_of_ble_eq_true rfl) rfl dX5_pair_1 ⟨Nat.zero_le _, Nat.zero_le _⟩ (fun H locs hP hS => ?_)
  refine lv_if_eq (tgt := 23) hx hb dX5_pair_4 (by decide) (fun c_2 => ?_) (fun c_2 => ?_)
  · have hM := on_pos c_2 hM
    refine lv_iconst (v := -1) hx hb dX5_pair_23 (by decide) ?_
    have hM := Option.some.inj hM
    subst hM
    rw [← hQ]
    exact on_iret hx hb hr hlk hP hD hS dX5_pair_24
  · have hM := on_neg c_2 hM
    refine lv_aload_n hx hb dX5_pair_7 rfl (lv_at hl 0 rfl) ?_
    refine lv_iload_n hx hb dX5_pair_8 rfl (lv_at hl 2 rfl) ?_
    obtain ⟨q_3, hq_3, hM⟩ := on_bind hM
    refine on_callV (rest := []) (As := [.int v2]) (st1 := [.int q_3]) (C := RX5) (ci := 5) (q0 := 0) (wc := [(h_t, .inr (5, [.ref h_t_now, .ref h_t_images, .ref h_t_pad, .ref h_t_net, .ref h_t_second, .ref h_t_renumbering, .ref h_t_table, .ref h_t_marks])), (h_t_now, .inr (3, [.int t_now_many, .ref h_t_now_numbers]))]) (wr := [(h_t_now_numbers, .inl (cI, 3, .inl t_now_numbers)), (h_t_net, .inr (0, [.int t_net_many, .ref h_t_net_rows])), (h_t_net_rows, .inl (cI, 7, .inl t_net_rows))]) (wc' := [(h_t, .inr (5, [.ref h_t_now, .ref h_t_images, .ref h_t_pad, .ref h_t_net, .ref h_t_second, .ref h_t_renumbering, .ref h_t_table, .ref h_t_marks])), (h_t_now, .inr (3, [.int t_now_many, .ref h_t_now_numbers]))]) (wf := [(h_t, .inr (5, [.ref h_t_now, .ref h_t_images, .ref h_t_pad, .ref h_t_net, .ref h_t_second, .ref h_t_renumbering, .ref h_t_table, .ref h_t_marks])), (h_t_now, .inr (3, [.int t_now_many, .ref h_t_now_numbers])), (h_t_now_numbers, .inl (cI, 3, .inl t_now_numbers)), (h_t_net, .inr (0, [.int t_net_many, .ref h_t_net_rows])), (h_t_net_rows, .inl (cI, 7, .inl t_net_rows))]) (rt := (some (.int q_3))) ⟨hx, hb, hml, hown, hts⟩ (k_X5_isNode h_t h_t_now h_t_images h_t_pad h_t_net h_t_second h_t_renumbering h_t_table h_t_marks h_t_now_numbers t_now_many v2 q_3 hq_3) (cwV 1 hts gX5_pair_X5_isNode rfl rfl rfl ⟨rfl, hdX5_isNode⟩ ⟨(Nat.le_of_ble_eq_true rfl), (Nat.le_of_ble_eq_true rfl)⟩) hK hN hP hD hS hA [0, 1] [2, 3, 4] [3, 4, 0, 1, 2] rfl rfl rfl rfl (by decide) rfl rfl rfl rfl rfl rfl hl.1 rfl (Nat.le_of_ble_eq_true rfl) rfl dX5_pair_9 ⟨Nat.zero_le _, Nat.zero_le _⟩ (fun H locs hP hD hS => ?_)
    refine lv_if_eq (tgt := 23) hx hb dX5_pair_12 (by decide) (fun c_4 => ?_) (fun c_4 => ?_)
    · have hM := on_pos c_4 hM
      refine lv_iconst (v := -1) hx hb dX5_pair_23 (by decide) ?_
      have hM := Option.some.inj hM
      subst hM
      rw [← hQ]
      exact on_iret hx hb hr hlk hP hD hS dX5_pair_24
    · have hM := on_neg c_4 hM
      refine lv_aload_n hx hb dX5_pair_15 rfl (lv_at hl 0 rfl) ?_
      refine lv_iload_n hx hb dX5_pair_16 rfl (lv_at hl 3 rfl) ?_
      obtain ⟨q_5, hq_5, hM⟩ := on_bind hM
      refine on_callV (rest := []) (As := [.int v3]) (st1 := [.int q_5]) (C := RX5) (ci := 5) (q0 := 0) (wc := [(h_t, .inr (5, [.ref h_t_now, .ref h_t_images, .ref h_t_pad, .ref h_t_net, .ref h_t_second, .ref h_t_renumbering, .ref h_t_table, .ref h_t_marks])), (h_t_now, .inr (3, [.int t_now_many, .ref h_t_now_numbers]))]) (wr := [(h_t_now_numbers, .inl (cI, 3, .inl t_now_numbers)), (h_t_net, .inr (0, [.int t_net_many, .ref h_t_net_rows])), (h_t_net_rows, .inl (cI, 7, .inl t_net_rows))]) (wc' := [(h_t, .inr (5, [.ref h_t_now, .ref h_t_images, .ref h_t_pad, .ref h_t_net, .ref h_t_second, .ref h_t_renumbering, .ref h_t_table, .ref h_t_marks])), (h_t_now, .inr (3, [.int t_now_many, .ref h_t_now_numbers]))]) (wf := [(h_t, .inr (5, [.ref h_t_now, .ref h_t_images, .ref h_t_pad, .ref h_t_net, .ref h_t_second, .ref h_t_renumbering, .ref h_t_table, .ref h_t_marks])), (h_t_now, .inr (3, [.int t_now_many, .ref h_t_now_numbers])), (h_t_now_numbers, .inl (cI, 3, .inl t_now_numbers)), (h_t_net, .inr (0, [.int t_net_many, .ref h_t_net_rows])), (h_t_net_rows, .inl (cI, 7, .inl t_net_rows))]) (rt := (some (.int q_5))) ⟨hx, hb, hml, hown, hts⟩ (k_X5_isNode h_t h_t_now h_t_images h_t_pad h_t_net h_t_second h_t_renumbering h_t_table h_t_marks h_t_now_numbers t_now_many v3 q_5 hq_5) (cwV 1 hts gX5_pair_X5_isNode rfl rfl rfl ⟨rfl, hdX5_isNode⟩ ⟨(Nat.le_of_ble_eq_true rfl), (Nat.le_of_ble_eq_true rfl)⟩) hK hN hP hD hS hA [0, 1] [2, 3, 4] [3, 4, 0, 1, 2] rfl rfl rfl rfl (by decide) rfl rfl rfl rfl rfl rfl hl.1 rfl (Nat.le_of_ble_eq_true rfl) rfl dX5_pair_17 ⟨Nat.zero_le _, Nat.zero_le _⟩ (fun H locs hP hD hS => ?_)
      refine lv_if_ne (tgt := 25) hx hb dX5_pair_20 (by decide) (fun c_6 => ?_) (fun c_6 => ?_)
      · have hM := on_neg c_6 hM
        refine lv_iload_n hx hb dX5_pair_25 rfl (lv_at hl 2 rfl) ?_
        refine lv_iload_n hx hb dX5_pair_26 rfl (lv_at hl 3 rfl) ?_
        refine lv_icmp_ne (tgt := 33) hx hb dX5_pair_27 (by decide) (fun c_7 => ?_) (fun c_7 => ?_)
        · have hM := on_neg c_7 hM
          refine lv_aload_n hx hb dX5_pair_33 rfl (lv_at hl 0 rfl) ?_
          refine lv_aload_n hx hb dX5_pair_34 rfl (lv_at hl 0 rfl) ?_
          refine va_get (D := D) (ci := 5) (v := .ref h_t_net) (C := RX5) (T := TX5) (N := 8) hx hb hts w2 hown hK hP 0 rfl rfl 3 (by decide) w1 (fun _ h9 => h9) rfl dX5_pair_35 ?_
          refine lv_iload_n hx hb dX5_pair_38 rfl (lv_at hl 1 rfl) ?_
          obtain ⟨q_8, hq_8, hM⟩ := on_bind hM
          refine on_callV (rest := []) (As := [.ref h_t_net, .int v1]) (st1 := []) (C := RX5) (ci := 5) (q0 := 0) (wc := [(h_t, .inr (5, [.ref h_t_now, .ref h_t_images, .ref h_t_pad, .ref h_t_net, .ref h_t_second, .ref h_t_renumbering, .ref h_t_table, .ref h_t_marks])), (h_t_now, .inr (3, [.int t_now_many, .ref h_t_now_numbers])), (h_t_now_numbers, .inl (cI, 3, .inl t_now_numbers)), (h_t_net, .inr (0, [.int t_net_many, .ref h_t_net_rows])), (h_t_net_rows, .inl (cI, 7, .inl t_net_rows))]) (wr := []) (wc' := [(h_t, .inr (5, [.ref h_t_now, .ref h_t_images, .ref h_t_pad, .ref h_t_net, .ref h_t_second, .ref h_t_renumbering, .ref h_t_table, .ref h_t_marks])), (h_t_now, .inr (3, [.int t_now_many, .ref h_t_now_numbers])), (h_t_now_numbers, .inl (cI, 3, .inl t_now_numbers)), (h_t_net, .inr (0, [.int q_8.1, .ref h_t_net_rows])), (h_t_net_rows, .inl (cI, 7, .inl q_8.2))]) (wf := [(h_t, .inr (5, [.ref h_t_now, .ref h_t_images, .ref h_t_pad, .ref h_t_net, .ref h_t_second, .ref h_t_renumbering, .ref h_t_table, .ref h_t_marks])), (h_t_now, .inr (3, [.int t_now_many, .ref h_t_now_numbers])), (h_t_now_numbers, .inl (cI, 3, .inl t_now_numbers)), (h_t_net, .inr (0, [.int q_8.1, .ref h_t_net_rows])), (h_t_net_rows, .inl (cI, 7, .inl q_8.2))]) (rt := none) ⟨hx, hb, hml, hown, hts⟩ (k_X5_load h_t h_t_now h_t_images h_t_pad h_t_net h_t_second h_t_renumbering h_t_table h_t_marks h_t_now_numbers h_t_net h_t_net_rows t_now_many t_now_numbers t_net_many t_net_rows v1 q_8 hq_8) (cwV 2 hts gX5_pair_X5_load rfl rfl rfl ⟨rfl, hdX5_load⟩ ⟨(Nat.le_of_ble_eq_true rfl), (Nat.le_of_ble_eq_true rfl)⟩) hK hN hP hD hS hA [0, 1, 2, 3, 4] [] [0, 1, 2, 3, 4] rfl rfl rfl rfl (by decide) rfl rfl rfl rfl rfl rfl hl.1 rfl (Nat.le_of_ble_eq_true rfl) rfl dX5_pair_39 ⟨Nat.zero_le _, Nat.zero_le _⟩ (fun H locs hP hD hS => ?_)
          refine lv_iload hx hb dX5_pair_42 (lv_at hl 4 rfl) ?_
          by_cases c_12 : v4 = 0
          · have hM := on_pos c_12 hM
            refine lv_tableIn (tgt := 72) hx hb dX5_pair_44 (by rw [c_12]; decide) (by rw [c_12]; decide) (by rw [c_12]; rfl) (by decide) ?_
            refine lv_aload_n hx hb dX5_pair_72 rfl (lv_at hl 0 rfl) ?_
            refine va_get (D := D) (ci := 5) (v := .ref h_t_net) (C := RX5) (T := TX5) (N := 8) hx hb hts w2 hown hK hP 0 rfl rfl 3 (by decide) w1 (fun _ h9 => h9) rfl dX5_pair_73 ?_
            refine lv_iload_n hx hb dX5_pair_76 rfl (lv_at hl 2 rfl) ?_
            refine lv_iload_n hx hb dX5_pair_77 rfl (lv_at hl 3 rfl) ?_
            obtain ⟨q_9, hq_9, hM⟩ := on_bind hM
            refine on_callVN (rest := []) (As := [.int v2, .int v3]) (st1 := [.int q_9]) (C := RX0) (ci := 0) (q0 := 3) (wc := [(h_t_net, .inr (0, [.int q_8.1, .ref h_t_net_rows])), (h_t_net_rows, .inl (cI, 7, .inl q_8.2))]) (wr := [(h_t, .inr (5, [.ref h_t_now, .ref h_t_images, .ref h_t_pad, .ref h_t_net, .ref h_t_second, .ref h_t_renumbering, .ref h_t_table, .ref h_t_marks])), (h_t_now, .inr (3, [.int t_now_many, .ref h_t_now_numbers])), (h_t_now_numbers, .inl (cI, 3, .inl t_now_numbers))]) (wc' := [(h_t_net, .inr (0, [.int q_8.1, .ref h_t_net_rows])), (h_t_net_rows, .inl (cI, 7, .inl q_8.2))]) (wf := [(h_t, .inr (5, [.ref h_t_now, .ref h_t_images, .ref h_t_pad, .ref h_t_net, .ref h_t_second, .ref h_t_renumbering, .ref h_t_table, .ref h_t_marks])), (h_t_now, .inr (3, [.int t_now_many, .ref h_t_now_numbers])), (h_t_now_numbers, .inl (cI, 3, .inl t_now_numbers)), (h_t_net, .inr (0, [.int q_8.1, .ref h_t_net_rows])), (h_t_net_rows, .inl (cI, 7, .inl q_8.2))]) (rt := (some (.int q_9))) ⟨hx, hb, hml, hown, hts⟩ (k_X0_joined h_t_net h_t_net_rows q_8.1 q_8.2 v2 v3 q_9 hq_9) ⟨va_cnB 2 hts gX5_pair_X0_joined_n141 rfl rfl rfl (hN _ (List.mem_of_getElem? (i := 34) rfl)) w3 hdX0_joined ⟨(Nat.le_of_ble_eq_true rfl), (Nat.le_of_ble_eq_true rfl)⟩, w4, w5⟩ hK hN hP hD hS hA [3, 4] [0, 1, 2] [0, 1, 2, 3, 4] rfl rfl rfl rfl (by decide) rfl rfl rfl rfl rfl rfl hl.1 rfl (Nat.le_of_ble_eq_true rfl) rfl dX5_pair_78 ⟨Nat.zero_le _, Nat.zero_le _⟩ (fun H locs hP hD hS => ?_)
            have hM := Option.some.inj hM
            subst hM
            rw [← hQ]
            exact on_iret hx hb hr hlk hP hD hS dX5_pair_81
          · have hM := on_neg c_12 hM
            by_cases c_13 : v4 = 1
            · have hM := on_pos c_13 hM
              refine lv_tableIn (tgt := 82) hx hb dX5_pair_44 (by rw [c_13]; decide) (by rw [c_13]; decide) (by rw [c_13]; rfl) (by decide) ?_
              refine lv_aload_n hx hb dX5_pair_82 rfl (lv_at hl 0 rfl) ?_
              refine va_get (D := D) (ci := 5) (v := .ref h_t_net) (C := RX5) (T := TX5) (N := 8) hx hb hts w2 hown hK hP 0 rfl rfl 3 (by decide) w1 (fun _ h9 => h9) rfl dX5_pair_83 ?_
              refine lv_iload_n hx hb dX5_pair_86 rfl (lv_at hl 2 rfl) ?_
              refine lv_iload_n hx hb dX5_pair_87 rfl (lv_at hl 3 rfl) ?_
              obtain ⟨q_10, hq_10, hM⟩ := on_bind hM
              refine on_callVN (rest := []) (As := [.int v2, .int v3]) (st1 := [.int q_10]) (C := RX0) (ci := 0) (q0 := 3) (wc := [(h_t_net, .inr (0, [.int q_8.1, .ref h_t_net_rows])), (h_t_net_rows, .inl (cI, 7, .inl q_8.2))]) (wr := [(h_t, .inr (5, [.ref h_t_now, .ref h_t_images, .ref h_t_pad, .ref h_t_net, .ref h_t_second, .ref h_t_renumbering, .ref h_t_table, .ref h_t_marks])), (h_t_now, .inr (3, [.int t_now_many, .ref h_t_now_numbers])), (h_t_now_numbers, .inl (cI, 3, .inl t_now_numbers))]) (wc' := [(h_t_net, .inr (0, [.int q_8.1, .ref h_t_net_rows])), (h_t_net_rows, .inl (cI, 7, .inl q_8.2))]) (wf := [(h_t, .inr (5, [.ref h_t_now, .ref h_t_images, .ref h_t_pad, .ref h_t_net, .ref h_t_second, .ref h_t_renumbering, .ref h_t_table, .ref h_t_marks])), (h_t_now, .inr (3, [.int t_now_many, .ref h_t_now_numbers])), (h_t_now_numbers, .inl (cI, 3, .inl t_now_numbers)), (h_t_net, .inr (0, [.int q_8.1, .ref h_t_net_rows])), (h_t_net_rows, .inl (cI, 7, .inl q_8.2))]) (rt := (some (.int q_10))) ⟨hx, hb, hml, hown, hts⟩ (k_X0_oddTriplesAtPair h_t_net h_t_net_rows q_8.1 q_8.2 v2 v3 q_10 hq_10) ⟨va_cnB 2 hts gX5_pair_X0_oddTriplesAtPair_n145 rfl rfl rfl (hN _ (List.mem_of_getElem? (i := 35) rfl)) w3 hdX0_oddTriplesAtPair ⟨(Nat.le_of_ble_eq_true rfl), (Nat.le_of_ble_eq_true rfl)⟩, w6, w7⟩ hK hN hP hD hS hA [3, 4] [0, 1, 2] [0, 1, 2, 3, 4] rfl rfl rfl rfl (by decide) rfl rfl rfl rfl rfl rfl hl.1 rfl (Nat.le_of_ble_eq_true rfl) rfl dX5_pair_88 ⟨Nat.zero_le _, Nat.zero_le _⟩ (fun H locs hP hD hS => ?_)
              have hM := Option.some.inj hM
              subst hM
              rw [← hQ]
              exact on_iret hx hb hr hlk hP hD hS dX5_pair_91
            · have hM := on_neg c_13 hM
              by_cases c_14 : v4 = 2
              · have hM := on_pos c_14 hM
                refine lv_tableIn (tgt := 92) hx hb dX5_pair_44 (by rw [c_14]; decide) (by rw [c_14]; decide) (by rw [c_14]; rfl) (by decide) ?_
                refine lv_aload_n hx hb dX5_pair_92 rfl (lv_at hl 0 rfl) ?_
                refine va_get (D := D) (ci := 5) (v := .ref h_t_net) (C := RX5) (T := TX5) (N := 8) hx hb hts w2 hown hK hP 0 rfl rfl 3 (by decide) w1 (fun _ h9 => h9) rfl dX5_pair_93 ?_
                refine lv_iload_n hx hb dX5_pair_96 rfl (lv_at hl 2 rfl) ?_
                refine lv_iload_n hx hb dX5_pair_97 rfl (lv_at hl 3 rfl) ?_
                obtain ⟨q_11, hq_11, hM⟩ := on_bind hM
                refine on_callVN (rest := []) (As := [.int v2, .int v3]) (st1 := [.int q_11]) (C := RX0) (ci := 0) (q0 := 3) (wc := [(h_t_net, .inr (0, [.int q_8.1, .ref h_t_net_rows])), (h_t_net_rows, .inl (cI, 7, .inl q_8.2))]) (wr := [(h_t, .inr (5, [.ref h_t_now, .ref h_t_images, .ref h_t_pad, .ref h_t_net, .ref h_t_second, .ref h_t_renumbering, .ref h_t_table, .ref h_t_marks])), (h_t_now, .inr (3, [.int t_now_many, .ref h_t_now_numbers])), (h_t_now_numbers, .inl (cI, 3, .inl t_now_numbers))]) (wc' := [(h_t_net, .inr (0, [.int q_8.1, .ref h_t_net_rows])), (h_t_net_rows, .inl (cI, 7, .inl q_8.2))]) (wf := [(h_t, .inr (5, [.ref h_t_now, .ref h_t_images, .ref h_t_pad, .ref h_t_net, .ref h_t_second, .ref h_t_renumbering, .ref h_t_table, .ref h_t_marks])), (h_t_now, .inr (3, [.int t_now_many, .ref h_t_now_numbers])), (h_t_now_numbers, .inl (cI, 3, .inl t_now_numbers)), (h_t_net, .inr (0, [.int q_8.1, .ref h_t_net_rows])), (h_t_net_rows, .inl (cI, 7, .inl q_8.2))]) (rt := (some (.int q_11))) ⟨hx, hb, hml, hown, hts⟩ (k_X0_shared h_t_net h_t_net_rows q_8.1 q_8.2 v2 v3 q_11 hq_11) ⟨va_cnB 2 hts gX5_pair_X0_shared_n148 rfl rfl rfl (hN _ (List.mem_of_getElem? (i := 36) rfl)) w3 hdX0_shared ⟨(Nat.le_of_ble_eq_true rfl), (Nat.le_of_ble_eq_true rfl)⟩, w8, w9⟩ hK hN hP hD hS hA [3, 4] [0, 1, 2] [0, 1, 2, 3, 4] rfl rfl rfl rfl (by decide) rfl rfl rfl rfl rfl rfl hl.1 rfl (Nat.le_of_ble_eq_true rfl) rfl dX5_pair_98 ⟨Nat.zero_le _, Nat.zero_le _⟩ (fun H locs hP hD hS => ?_)
                have hM := Option.some.inj hM
                subst hM
                rw [← hQ]
                exact on_iret hx hb hr hlk hP hD hS dX5_pair_101
              · have hM := on_neg c_14 hM
                refine lv_tableOut (tgt := 102) hx hb dX5_pair_44 (on_swOut (n := 3) (fun k hk => by rcases (show k = 0 ∨ k = 1 ∨ k = 2 by omega) with rfl | rfl | rfl <;> first | exact c_12 | exact c_13 | exact c_14) (by decide)) (by decide) ?_
                refine lv_bipush (v := -2) hx hb dX5_pair_102 (by decide) ?_
                have hM := Option.some.inj hM
                subst hM
                rw [← hQ]
                exact on_iret hx hb hr hlk hP hD hS dX5_pair_104
        · have hM := on_pos c_7 hM
          refine lv_bipush (v := -2) hx hb dX5_pair_30 (by decide) ?_
          have hM := Option.some.inj hM
          subst hM
          rw [← hQ]
          exact on_iret hx hb hr hlk hP hD hS dX5_pair_32
      · have hM := on_pos c_6 hM
        refine lv_iconst (v := -1) hx hb dX5_pair_23 (by decide) ?_
        have hM := Option.some.inj hM
        subst hM
        rw [← hQ]
        exact on_iret hx hb hr hlk hP hD hS dX5_pair_24
abbrev rm_X0_copySwitched : Room := { frames := 2, cells := 0, slots := 0, locals := 64 }
set_option maxHeartbeats 4000000 in
set_option maxRecDepth 100000 in
theorem k_X0_copySwitched {l : Launch} {D : va_G} {cI cJ cZ cS cA : ClassId} (h_t : Nat) (h_t_rows : Nat) (h_p0 : Nat) (h_p0_rows : Nat) (t_many : Int32) (t_rows : Nat → Int32) (p0_many : Int32) (p0_rows : Nat → Int32) (v2 : Int32) (out : Int32 × (Nat → Int32)) (hM : M_X0_copySwitched v2 t_rows p0_many p0_rows = some out) : on_Con l yX0_copySwitched wsX0_copySwitched rm_X0_copySwitched [.ref h_t, .ref h_p0, .int v2] D (on_T cI cJ cZ cS cA) [(h_t, .inr (0, [.int t_many, .ref h_t_rows])), (h_t_rows, .inl (cI, 7, .inl t_rows)), (h_p0, .inr (0, [.int p0_many, .ref h_p0_rows])), (h_p0_rows, .inl (cI, 7, .inl p0_rows))] none [(h_t, .inr (0, [.int out.1, .ref h_t_rows])), (h_t_rows, .inl (cI, 7, .inl out.2)), (h_p0, .inr (0, [.int p0_many, .ref h_p0_rows])), (h_p0_rows, .inl (cI, 7, .inl p0_rows))] := by
  unfold M_X0_copySwitched at hM
  refine on_enter (cc := cX0_copySwitched) (nL := 3) (rt := none) (own := RX0) (by decide +kernel) rfl rfl (Nat.le_of_ble_eq_true rfl) ?_
  intro p e s m below meth c A ls hx hb hml hr hlk hts hown hA hK hN H locs hP hD hS hl
  have hl : lv_has ls 3 [(0, .ref h_t), (1, .ref h_p0), (2, .int v2)] := hl
  generalize hQ : MQ below (on_Q D none [(h_t, .inr (0, [.int out.1, .ref h_t_rows])), (h_t_rows, .inl (cI, 7, .inl out.2)), (h_p0, .inr (0, [.int p0_many, .ref h_p0_rows])), (h_p0_rows, .inl (cI, 7, .inl p0_rows))] A) _ s 0 0 A = Q
  generalize hAr : List.toArray ([.ref h_t, .ref h_p0, .int v2] : List Value) = args at hts hQ ⊢
  have w1 := hts (.fieldLink RX0 9 "OddNets$Net" "many" "I") (by decide +kernel)
  have w2 : ∀ w ∈ wsX00, w ∈ wsX0_copySwitched := by decide +kernel
  have w3 := hts (.fieldLink RX0 15 "OddNets$Net" "rows" "[I") (by decide +kernel)
  have w4 := hts (.methodLink RX0 43 arraycopyName) (by decide +kernel)
  have w5 := hts (.native arraycopyName) (by decide +kernel)
  have w6 := hts (.static arraycopyName) (by decide +kernel)
  have w7 := hts (.initialized "java/lang/System") (by decide +kernel)
  refine lv_aload_n hx hb dX0_copySwitched_0 rfl (lv_at hl 0 rfl) ?_
  refine lv_aload_n hx hb dX0_copySwitched_1 rfl (lv_at hl 1 rfl) ?_
  refine va_get (D := D) (ci := 0) (v := .int p0_many) (C := RX0) (T := TX0) (N := 2) hx hb hts w2 hown hK hP 2 rfl rfl 0 (by decide) w1 (fun _ h9 => h9) rfl dX0_copySwitched_2 ?_
  refine va_put (D := D) (ci := 0) (v := .int p0_many) (ty := .int) (C := RX0) (T := TX0) (N := 2) hx hb hts w2 tyX0 tyX0_ok nmX0 hown hK hP hD hS 0 rfl rfl 0 (by decide) w1 (fun _ h9 => h9) rfl (by decide +kernel) rfl rfl (Nat.le_of_ble_eq_true rfl) dX0_copySwitched_5 (fun H locs hP hD hS => ?_)
  have hP : va_P D vwCl [(h_t, .inr (0, [.int p0_many, .ref h_t_rows])), (h_t_rows, .inl (cI, 7, .inl t_rows)), (h_p0, .inr (0, [.int p0_many, .ref h_p0_rows])), (h_p0_rows, .inl (cI, 7, .inl p0_rows))] H := hP
  have hD : va_D A [(h_t, .inr (0, [.int p0_many, .ref h_t_rows])), (h_t_rows, .inl (cI, 7, .inl t_rows)), (h_p0, .inr (0, [.int p0_many, .ref h_p0_rows])), (h_p0_rows, .inl (cI, 7, .inl p0_rows))] := hD
  refine lv_aload_n hx hb dX0_copySwitched_8 rfl (lv_at hl 1 rfl) ?_
  refine va_get (D := D) (ci := 0) (v := .ref h_p0_rows) (C := RX0) (T := TX0) (N := 2) hx hb hts w2 hown hK hP 2 rfl rfl 1 (by decide) w3 (fun _ h9 => h9) rfl dX0_copySwitched_9 ?_
  refine lv_iconst (v := 0) hx hb dX0_copySwitched_12 (by decide) ?_
  refine lv_aload_n hx hb dX0_copySwitched_13 rfl (lv_at hl 0 rfl) ?_
  refine va_get (D := D) (ci := 0) (v := .ref h_t_rows) (C := RX0) (T := TX0) (N := 2) hx hb hts w2 hown hK hP 0 rfl rfl 1 (by decide) w3 (fun _ h9 => h9) rfl dX0_copySwitched_14 ?_
  refine lv_iconst (v := 0) hx hb dX0_copySwitched_17 (by decide) ?_
  refine lv_bipush (v := 7) hx hb dX0_copySwitched_18 (by decide) ?_
  refine va_copyi (rest := []) (ty := .int) hx hb (hml.trans hl.1.symm) hown w4 w5 w6 w7 hK hP hD hS 3 1 0 0 rfl rfl rfl rfl rfl (by decide) (by decide) (by decide) (by decide) (by decide) (fun i hi => rfl) (Nat.le_of_ble_eq_true rfl) (Nat.le_of_ble_eq_true rfl) dX0_copySwitched_20 (fun H locs hP hD hS => ?_)
  have hP : va_P D vwCl [(h_t, .inr (0, [.int p0_many, .ref h_t_rows])), (h_t_rows, .inl (cI, 7, .inl (va_cpy p0_rows t_rows 0 0 7))), (h_p0, .inr (0, [.int p0_many, .ref h_p0_rows])), (h_p0_rows, .inl (cI, 7, .inl p0_rows))] H := hP
  have hD : va_D A [(h_t, .inr (0, [.int p0_many, .ref h_t_rows])), (h_t_rows, .inl (cI, 7, .inl (va_cpy p0_rows t_rows 0 0 7))), (h_p0, .inr (0, [.int p0_many, .ref h_p0_rows])), (h_p0_rows, .inl (cI, 7, .inl p0_rows))] := hD
  refine lv_aload_n hx hb dX0_copySwitched_23 rfl (lv_at hl 0 rfl) ?_
  refine lv_iload_n hx hb dX0_copySwitched_24 rfl (lv_at hl 2 rfl) ?_
  obtain ⟨q_1, hq_1, hM⟩ := on_bind hM
  refine on_callV (rest := []) (As := [.int v2]) (st1 := []) (C := RX0) (ci := 0) (q0 := 0) (wc := [(h_t, .inr (0, [.int p0_many, .ref h_t_rows])), (h_t_rows, .inl (cI, 7, .inl (va_cpy p0_rows t_rows 0 0 7)))]) (wr := [(h_p0, .inr (0, [.int p0_many, .ref h_p0_rows])), (h_p0_rows, .inl (cI, 7, .inl p0_rows))]) (wc' := [(h_t, .inr (0, [.int p0_many, .ref h_t_rows])), (h_t_rows, .inl (cI, 7, .inl q_1))]) (wf := [(h_t, .inr (0, [.int p0_many, .ref h_t_rows])), (h_t_rows, .inl (cI, 7, .inl q_1)), (h_p0, .inr (0, [.int p0_many, .ref h_p0_rows])), (h_p0_rows, .inl (cI, 7, .inl p0_rows))]) (rt := none) ⟨hx, hb, hml, hown, hts⟩ (k_X0_switchBy h_t h_t_rows p0_many (va_cpy p0_rows t_rows 0 0 7) v2 q_1 hq_1) (cwV 1 hts gX0_copySwitched_X0_switchBy rfl rfl rfl ⟨rfl, hdX0_switchBy⟩ ⟨(Nat.le_of_ble_eq_true rfl), (Nat.le_of_ble_eq_true rfl)⟩) hK hN hP hD hS hA [0, 1] [2, 3] [2, 3, 0, 1] rfl rfl rfl rfl (by decide) rfl rfl rfl rfl rfl rfl hl.1 rfl (Nat.le_of_ble_eq_true rfl) rfl dX0_copySwitched_25 ⟨Nat.zero_le _, Nat.zero_le _⟩ (fun H locs hP hD hS => ?_)
  have hM := Option.some.inj hM
  subst hM
  rw [← hQ]
  exact on_vret hx hb hr hlk hP hD hS dX0_copySwitched_28
abbrev rm_X5_fewest : Room := { frames := 3, cells := 0, slots := 0, locals := 86 }
set_option maxHeartbeats 4000000 in
set_option maxRecDepth 100000 in
theorem k_X5_fewest {l : Launch} {D : va_G} {cI cJ cZ cS cA : ClassId} (h_t : Nat) (h_t_now : Nat) (h_t_images : Nat) (h_t_pad : Nat) (h_t_net : Nat) (h_t_second : Nat) (h_t_renumbering : Nat) (h_t_table : Nat) (h_t_marks : Nat) (h_t_now_numbers : Nat) (h_t_net_rows : Nat) (h_t_second_rows : Nat) (t_now_many : Int32) (t_now_numbers : Nat → Int32) (t_net_many : Int32) (t_net_rows : Nat → Int32) (t_second_many : Int32) (t_second_rows : Nat → Int32) (v1 : Int32) (v2 : Int32) (out : Int32 × Int32 × (Nat → Int32) × Int32 × (Nat → Int32)) (hM : M_X5_fewest v1 v2 t_now_many t_now_numbers t_net_many t_net_rows t_second_many t_second_rows = some out) : on_Con l yX5_fewest wsX5_fewest rm_X5_fewest [.ref h_t, .int v1, .int v2] D (on_T cI cJ cZ cS cA) [(h_t, .inr (5, [.ref h_t_now, .ref h_t_images, .ref h_t_pad, .ref h_t_net, .ref h_t_second, .ref h_t_renumbering, .ref h_t_table, .ref h_t_marks])), (h_t_now, .inr (3, [.int t_now_many, .ref h_t_now_numbers])), (h_t_now_numbers, .inl (cI, 3, .inl t_now_numbers)), (h_t_net, .inr (0, [.int t_net_many, .ref h_t_net_rows])), (h_t_net_rows, .inl (cI, 7, .inl t_net_rows)), (h_t_second, .inr (0, [.int t_second_many, .ref h_t_second_rows])), (h_t_second_rows, .inl (cI, 7, .inl t_second_rows))] (some (.int out.1)) [(h_t, .inr (5, [.ref h_t_now, .ref h_t_images, .ref h_t_pad, .ref h_t_net, .ref h_t_second, .ref h_t_renumbering, .ref h_t_table, .ref h_t_marks])), (h_t_now, .inr (3, [.int t_now_many, .ref h_t_now_numbers])), (h_t_now_numbers, .inl (cI, 3, .inl t_now_numbers)), (h_t_net, .inr (0, [.int out.2.1, .ref h_t_net_rows])), (h_t_net_rows, .inl (cI, 7, .inl out.2.2.1)), (h_t_second, .inr (0, [.int out.2.2.2.1, .ref h_t_second_rows])), (h_t_second_rows, .inl (cI, 7, .inl out.2.2.2.2))] := by
  unfold M_X5_fewest at hM
  refine on_enter (cc := cX5_fewest) (nL := 8) (rt := (some .int)) (own := RX5) (by decide +kernel) rfl rfl (Nat.le_of_ble_eq_true rfl) ?_
  intro p e s m below meth c A ls hx hb hml hr hlk hts hown hA hK hN H locs hP hD hS hl
  have hl : lv_has ls 8 [(0, .ref h_t), (1, .int v1), (2, .int v2)] := hl
  generalize hQ : MQ below (on_Q D (some (.int out.1)) [(h_t, .inr (5, [.ref h_t_now, .ref h_t_images, .ref h_t_pad, .ref h_t_net, .ref h_t_second, .ref h_t_renumbering, .ref h_t_table, .ref h_t_marks])), (h_t_now, .inr (3, [.int t_now_many, .ref h_t_now_numbers])), (h_t_now_numbers, .inl (cI, 3, .inl t_now_numbers)), (h_t_net, .inr (0, [.int out.2.1, .ref h_t_net_rows])), (h_t_net_rows, .inl (cI, 7, .inl out.2.2.1)), (h_t_second, .inr (0, [.int out.2.2.2.1, .ref h_t_second_rows])), (h_t_second_rows, .inl (cI, 7, .inl out.2.2.2.2))] A) _ s 0 0 A = Q
  generalize hAr : List.toArray ([.ref h_t, .int v1, .int v2] : List Value) = args at hts hQ ⊢
  have w1 := hts (.fieldLink RX5 30 "OddNets" "net" "LOddNets$Net;") (by decide +kernel)
  have w2 : ∀ w ∈ wsX50, w ∈ wsX5_fewest := by decide +kernel
  have w3 := hts (.fieldLink RX5 10 "OddNets" "now" "LOddNets$Shelf;") (by decide +kernel)
  have w4 : ∀ w ∈ wsX30, w ∈ wsX5_fewest := by decide +kernel
  have w5 := hts (.fieldLink RX5 34 "OddNets" "second" "LOddNets$Net;") (by decide +kernel)
  have w6 := hts (.initialized RX0) (by decide +kernel)
  have w7 := hts (.instanceMethod yX0_copySwitched) (by decide +kernel)
  have w8 := hts (.selects RX0 yX0_copySwitched yX0_copySwitched) (by decide +kernel)
  have w9 := hts (.instanceMethod yX0_joinedPairs) (by decide +kernel)
  have w10 := hts (.selects RX0 yX0_joinedPairs yX0_joinedPairs) (by decide +kernel)
  have lp_52 : ∀ (v2 : Int32) (t_net_many : Int32) (t_net_rows : Nat → Int32), ∀ (n : Nat) (v3 : Int32) (v4 : Int32) (v5 : Int32) (v6 : Int32) (t_second_many : Int32) (t_second_rows : Nat → Int32) (x : Int32 × Int32 × Int32 × Int32 × (Nat → Int32)), on_loop (fun (s : Int32 × Int32 × Int32 × Int32 × Int32 × (Nat → Int32)) => B_X5_fewest_52 t_now_many t_net_many t_net_rows s.1 s.2.1 s.2.2.1 s.2.2.2.1 s.2.2.2.2.1 s.2.2.2.2.2) n (v3, v4, v5, v6, t_second_many, t_second_rows) = some x → (∀ (H : Heap) (locs : List Loc), va_P D vwCl [(h_t, .inr (5, [.ref h_t_now, .ref h_t_images, .ref h_t_pad, .ref h_t_net, .ref h_t_second, .ref h_t_renumbering, .ref h_t_table, .ref h_t_marks])), (h_t_now, .inr (3, [.int t_now_many, .ref h_t_now_numbers])), (h_t_now_numbers, .inl (cI, 3, .inl t_now_numbers)), (h_t_net, .inr (0, [.int t_net_many, .ref h_t_net_rows])), (h_t_net_rows, .inl (cI, 7, .inl t_net_rows)), (h_t_second, .inr (0, [.int x.2.2.2.1, .ref h_t_second_rows])), (h_t_second_rows, .inl (cI, 7, .inl x.2.2.2.2))] H → va_D A [(h_t, .inr (5, [.ref h_t_now, .ref h_t_images, .ref h_t_pad, .ref h_t_net, .ref h_t_second, .ref h_t_renumbering, .ref h_t_table, .ref h_t_marks])), (h_t_now, .inr (3, [.int t_now_many, .ref h_t_now_numbers])), (h_t_now_numbers, .inl (cI, 3, .inl t_now_numbers)), (h_t_net, .inr (0, [.int t_net_many, .ref h_t_net_rows])), (h_t_net_rows, .inl (cI, 7, .inl t_net_rows)), (h_t_second, .inr (0, [.int x.2.2.2.1, .ref h_t_second_rows])), (h_t_second_rows, .inl (cI, 7, .inl x.2.2.2.2))] → va_S A s.heap H locs → ∀ ls : Array Slot, lv_has ls 8 [(2, .int v2), (3, .int x.1), (4, .int x.2.1), (5, .int x.2.2.1)] → W p l e rm_X5_fewest s m args below meth c H locs 0 0 Q (F0 m 119 ls [])) → ∀ (H : Heap) (locs : List Loc), va_P D vwCl [(h_t, .inr (5, [.ref h_t_now, .ref h_t_images, .ref h_t_pad, .ref h_t_net, .ref h_t_second, .ref h_t_renumbering, .ref h_t_table, .ref h_t_marks])), (h_t_now, .inr (3, [.int t_now_many, .ref h_t_now_numbers])), (h_t_now_numbers, .inl (cI, 3, .inl t_now_numbers)), (h_t_net, .inr (0, [.int t_net_many, .ref h_t_net_rows])), (h_t_net_rows, .inl (cI, 7, .inl t_net_rows)), (h_t_second, .inr (0, [.int t_second_many, .ref h_t_second_rows])), (h_t_second_rows, .inl (cI, 7, .inl t_second_rows))] H → va_D A [(h_t, .inr (5, [.ref h_t_now, .ref h_t_images, .ref h_t_pad, .ref h_t_net, .ref h_t_second, .ref h_t_renumbering, .ref h_t_table, .ref h_t_marks])), (h_t_now, .inr (3, [.int t_now_many, .ref h_t_now_numbers])), (h_t_now_numbers, .inl (cI, 3, .inl t_now_numbers)), (h_t_net, .inr (0, [.int t_net_many, .ref h_t_net_rows])), (h_t_net_rows, .inl (cI, 7, .inl t_net_rows)), (h_t_second, .inr (0, [.int t_second_many, .ref h_t_second_rows])), (h_t_second_rows, .inl (cI, 7, .inl t_second_rows))] → va_S A s.heap H locs → ∀ ls : Array Slot, lv_has ls 8 [(0, .ref h_t), (2, .int v2), (3, .int v3), (4, .int v4), (5, .int v5), (6, .int v6)] → W p l e rm_X5_fewest s m args below meth c H locs 0 0 Q (F0 m 52 ls []) := by
    intro v2 t_net_many t_net_rows
    intro n
    induction n with
    | zero =>
      intro v3 v4 v5 v6 t_second_many t_second_rows x hL
      exact (on_loop0 hL).elim
    | succ n ih =>
      intro v3 v4 v5 v6 t_second_many t_second_rows x hL K1 H locs hP hD hS ls hl
      obtain ⟨y, hM, hk⟩ := on_loopE hL
      have hM : B_X5_fewest_52 t_now_many t_net_many t_net_rows v3 v4 v5 v6 t_second_many t_second_rows = some y := hM
      unfold B_X5_fewest_52 at hM
      refine lv_iload hx hb dX5_fewest_52 (lv_at hl 5 rfl) ?_
      refine lv_iconst (v := 1) hx hb dX5_fewest_54 (by decide) ?_
      refine lv_aload_n hx hb dX5_fewest_55 rfl (lv_at hl 0 rfl) ?_
      refine va_get (D := D) (ci := 5) (v := .ref h_t_now) (C := RX5) (T := TX5) (N := 8) hx hb hts w2 hown hK hP 0 rfl rfl 0 (by decide) w3 (fun _ h9 => h9) rfl dX5_fewest_56 ?_
      refine va_getN (D := D) (ci := 3) (v := .int t_now_many) (C := RX3) (T := TX3) (N := 2) hx hb hts w4 hown hK hP 1 rfl rfl 0 (by decide) (va_Nw.use rfl (hN _ (List.mem_of_getElem? (i := 0) rfl))) (fun _ h9 => h9) rfl dX5_fewest_59 ?_
      refine lv_ishl hx hb dX5_fewest_62 ?_
      refine lv_icmp_ge (tgt := 119) hx hb dX5_fewest_63 (by decide) (fun c_8 => ?_) (fun c_8 => ?_)
      · have hM := on_pos c_8 hM
        have hk := on_nxR hM hk
        subst hk
        exact K1 _ _ hP hD hS ls (lv_sub hl [1, 2, 3, 4] rfl)
      · have hM := on_neg c_8 hM
        refine lv_aload_n hx hb dX5_fewest_66 rfl (lv_at hl 0 rfl) ?_
        refine va_get (D := D) (ci := 5) (v := .ref h_t_second) (C := RX5) (T := TX5) (N := 8) hx hb hts w2 hown hK hP 0 rfl rfl 4 (by decide) w5 (fun _ h9 => h9) rfl dX5_fewest_67 ?_
        refine lv_aload_n hx hb dX5_fewest_70 rfl (lv_at hl 0 rfl) ?_
        refine va_get (D := D) (ci := 5) (v := .ref h_t_net) (C := RX5) (T := TX5) (N := 8) hx hb hts w2 hown hK hP 0 rfl rfl 3 (by decide) w1 (fun _ h9 => h9) rfl dX5_fewest_71 ?_
        refine lv_iload hx hb dX5_fewest_74 (lv_at hl 5 rfl) ?_
        obtain ⟨q_9, hq_9, hM⟩ := on_bind hM
        refine on_callVN (rest := []) (As := [.ref h_t_net, .int v6]) (st1 := []) (C := RX0) (ci := 0) (q0 := 5) (wc := [(h_t_second, .inr (0, [.int t_second_many, .ref h_t_second_rows])), (h_t_second_rows, .inl (cI, 7, .inl t_second_rows)), (h_t_net, .inr (0, [.int t_net_many, .ref h_t_net_rows])), (h_t_net_rows, .inl (cI, 7, .inl t_net_rows))]) (wr := [(h_t, .inr (5, [.ref h_t_now, .ref h_t_images, .ref h_t_pad, .ref h_t_net, .ref h_t_second, .ref h_t_renumbering, .ref h_t_table, .ref h_t_marks])), (h_t_now, .inr (3, [.int t_now_many, .ref h_t_now_numbers])), (h_t_now_numbers, .inl (cI, 3, .inl t_now_numbers))]) (wc' := [(h_t_second, .inr (0, [.int q_9.1, .ref h_t_second_rows])), (h_t_second_rows, .inl (cI, 7, .inl q_9.2)), (h_t_net, .inr (0, [.int t_net_many, .ref h_t_net_rows])), (h_t_net_rows, .inl (cI, 7, .inl t_net_rows))]) (wf := [(h_t, .inr (5, [.ref h_t_now, .ref h_t_images, .ref h_t_pad, .ref h_t_net, .ref h_t_second, .ref h_t_renumbering, .ref h_t_table, .ref h_t_marks])), (h_t_now, .inr (3, [.int t_now_many, .ref h_t_now_numbers])), (h_t_now_numbers, .inl (cI, 3, .inl t_now_numbers)), (h_t_net, .inr (0, [.int t_net_many, .ref h_t_net_rows])), (h_t_net_rows, .inl (cI, 7, .inl t_net_rows)), (h_t_second, .inr (0, [.int q_9.1, .ref h_t_second_rows])), (h_t_second_rows, .inl (cI, 7, .inl q_9.2))]) (rt := none) ⟨hx, hb, hml, hown, hts⟩ (k_X0_copySwitched h_t_second h_t_second_rows h_t_net h_t_net_rows t_second_many t_second_rows t_net_many t_net_rows v6 q_9 hq_9) ⟨va_cnB 2 hts gX5_fewest_X0_copySwitched_n151 rfl rfl rfl (hN _ (List.mem_of_getElem? (i := 37) rfl)) w6 hdX0_copySwitched ⟨(Nat.le_of_ble_eq_true rfl), (Nat.le_of_ble_eq_true rfl)⟩, w7, w8⟩ hK hN hP hD hS hA [5, 6, 3, 4] [0, 1, 2] [0, 1, 2, 5, 6, 3, 4] rfl rfl rfl rfl (by decide) rfl rfl rfl rfl rfl rfl hl.1 rfl (Nat.le_of_ble_eq_true rfl) rfl dX5_fewest_76 ⟨Nat.zero_le _, Nat.zero_le _⟩ (fun H locs hP hD hS => ?_)
        refine lv_aload_n hx hb dX5_fewest_79 rfl (lv_at hl 0 rfl) ?_
        refine va_get (D := D) (ci := 5) (v := .ref h_t_second) (C := RX5) (T := TX5) (N := 8) hx hb hts w2 hown hK hP 0 rfl rfl 4 (by decide) w5 (fun _ h9 => h9) rfl dX5_fewest_80 ?_
        obtain ⟨q_10, hq_10, hM⟩ := on_bind hM
        refine on_callVN (rest := []) (As := []) (st1 := [.int q_10]) (C := RX0) (ci := 0) (q0 := 5) (wc := [(h_t_second, .inr (0, [.int q_9.1, .ref h_t_second_rows])), (h_t_second_rows, .inl (cI, 7, .inl q_9.2))]) (wr := [(h_t, .inr (5, [.ref h_t_now, .ref h_t_images, .ref h_t_pad, .ref h_t_net, .ref h_t_second, .ref h_t_renumbering, .ref h_t_table, .ref h_t_marks])), (h_t_now, .inr (3, [.int t_now_many, .ref h_t_now_numbers])), (h_t_now_numbers, .inl (cI, 3, .inl t_now_numbers)), (h_t_net, .inr (0, [.int t_net_many, .ref h_t_net_rows])), (h_t_net_rows, .inl (cI, 7, .inl t_net_rows))]) (wc' := [(h_t_second, .inr (0, [.int q_9.1, .ref h_t_second_rows])), (h_t_second_rows, .inl (cI, 7, .inl q_9.2))]) (wf := [(h_t, .inr (5, [.ref h_t_now, .ref h_t_images, .ref h_t_pad, .ref h_t_net, .ref h_t_second, .ref h_t_renumbering, .ref h_t_table, .ref h_t_marks])), (h_t_now, .inr (3, [.int t_now_many, .ref h_t_now_numbers])), (h_t_now_numbers, .inl (cI, 3, .inl t_now_numbers)), (h_t_net, .inr (0, [.int t_net_many, .ref h_t_net_rows])), (h_t_net_rows, .inl (cI, 7, .inl t_net_rows)), (h_t_second, .inr (0, [.int q_9.1, .ref h_t_second_rows])), (h_t_second_rows, .inl (cI, 7, .inl q_9.2))]) (rt := (some (.int q_10))) ⟨hx, hb, hml, hown, hts⟩ (k_X0_joinedPairs h_t_second h_t_second_rows q_9.1 q_9.2 q_10 hq_10) ⟨va_cnB 0 hts gX5_fewest_X0_joinedPairs_n89 rfl rfl rfl (hN _ (List.mem_of_getElem? (i := 20) rfl)) w6 hdX0_joinedPairs ⟨(Nat.le_of_ble_eq_true rfl), (Nat.le_of_ble_eq_true rfl)⟩, w9, w10⟩ hK hN hP hD hS hA [5, 6] [0, 1, 2, 3, 4] [0, 1, 2, 3, 4, 5, 6] rfl rfl rfl rfl (by decide) rfl rfl rfl rfl rfl rfl hl.1 rfl (Nat.le_of_ble_eq_true rfl) rfl dX5_fewest_83 ⟨Nat.zero_le _, Nat.zero_le _⟩ (fun H locs hP hD hS => ?_)
        refine lv_istore (lv' := [(7, .int q_10), (0, .ref h_t), (2, .int v2), (3, .int v3), (4, .int v4), (5, .int v5), (6, .int v6)]) hx hb dX5_fewest_86 hl (by decide) rfl (fun ls hl => ?_)
        refine lv_iload hx hb dX5_fewest_88 (lv_at hl 0 rfl) ?_
        refine lv_iload_n hx hb dX5_fewest_90 rfl (lv_at hl 3 rfl) ?_
        refine lv_icmp_ge (tgt := 104) hx hb dX5_fewest_91 (by decide) (fun c_11 => ?_) (fun c_11 => ?_)
        · have hM := on_pos c_11 hM
          refine lv_iload hx hb dX5_fewest_104 (lv_at hl 0 rfl) ?_
          refine lv_iload_n hx hb dX5_fewest_106 rfl (lv_at hl 3 rfl) ?_
          refine lv_icmp_ne (tgt := 113) hx hb dX5_fewest_107 (by decide) (fun c_12 => ?_) (fun c_12 => ?_)
          · have hM := on_neg c_12 hM
            obtain ⟨v6_13, ev6_13⟩ : ∃ z : Int32, z = v6 + 2 := ⟨_, rfl⟩
            have hM := on_letE ev6_13 hM
            refine lv_iinc (v := v6_13) (lv' := [(6, .int v6_13), (7, .int q_10), (0, .ref h_t), (2, .int v2), (3, .int v3), (4, .int v4), (5, .int v5)]) hx hb dX5_fewest_113 hl (k := 6) rfl (by rw [ev6_13]; rfl) (by decide) rfl (fun ls hl => ?_)
            refine lv_goto (tgt := 52) hx hb dX5_fewest_116 (by decide) ?_
            have hk := on_nxL hM hk
            exact ih v3 v4 v5 v6_13 q_9.1 q_9.2 _ hk K1 _ _ hP hD hS ls (lv_sub hl [2, 3, 4, 5, 6, 0] rfl)
          · have hM := on_pos c_12 hM
            obtain ⟨v5_14, ev5_14⟩ : ∃ z : Int32, z = v5 + 1 := ⟨_, rfl⟩
            have hM := on_letE ev5_14 hM
            refine lv_iinc (v := v5_14) (lv' := [(5, .int v5_14), (7, .int q_10), (0, .ref h_t), (2, .int v2), (3, .int v3), (4, .int v4), (6, .int v6)]) hx hb dX5_fewest_110 hl (k := 5) rfl (by rw [ev5_14]; rfl) (by decide) rfl (fun ls hl => ?_)
            obtain ⟨v6_15, ev6_15⟩ : ∃ z : Int32, z = v6 + 2 := ⟨_, rfl⟩
            have hM := on_letE ev6_15 hM
            refine lv_iinc (v := v6_15) (lv' := [(6, .int v6_15), (5, .int v5_14), (7, .int q_10), (0, .ref h_t), (2, .int v2), (3, .int v3), (4, .int v4)]) hx hb dX5_fewest_113 hl (k := 6) rfl (by rw [ev6_15]; rfl) (by decide) rfl (fun ls hl => ?_)
            refine lv_goto (tgt := 52) hx hb dX5_fewest_116 (by decide) ?_
            have hk := on_nxL hM hk
            exact ih v3 v4 v5_14 v6_15 q_9.1 q_9.2 _ hk K1 _ _ hP hD hS ls (lv_sub hl [3, 4, 5, 6, 1, 0] rfl)
        · have hM := on_neg c_11 hM
          refine lv_iload hx hb dX5_fewest_94 (lv_at hl 0 rfl) ?_
          refine lv_istore_n (lv' := [(3, .int q_10), (7, .int q_10), (0, .ref h_t), (2, .int v2), (4, .int v4), (5, .int v5), (6, .int v6)]) hx hb dX5_fewest_96 rfl hl (by decide) rfl (fun ls hl => ?_)
          refine lv_iload hx hb dX5_fewest_97 (lv_at hl 6 rfl) ?_
          refine lv_istore (lv' := [(4, .int v6), (3, .int q_10), (7, .int q_10), (0, .ref h_t), (2, .int v2), (5, .int v5), (6, .int v6)]) hx hb dX5_fewest_99 hl (by decide) rfl (fun ls hl => ?_)
          refine lv_iconst (v := 0) hx hb dX5_fewest_101 (by decide) ?_
          refine lv_istore (lv' := [(5, .int (0 : Int32)), (4, .int v6), (3, .int q_10), (7, .int q_10), (0, .ref h_t), (2, .int v2), (6, .int v6)]) hx hb dX5_fewest_102 hl (by decide) rfl (fun ls hl => ?_)
          refine lv_iload hx hb dX5_fewest_104 (lv_at hl 3 rfl) ?_
          refine lv_iload_n hx hb dX5_fewest_106 rfl (lv_at hl 2 rfl) ?_
          refine lv_icmp_ne (tgt := 113) hx hb dX5_fewest_107 (by decide) (fun c_16 => ?_) (fun c_16 => ?_)
          · have hM := on_neg c_16 hM
            obtain ⟨v6_17, ev6_17⟩ : ∃ z : Int32, z = v6 + 2 := ⟨_, rfl⟩
            have hM := on_letE ev6_17 hM
            refine lv_iinc (v := v6_17) (lv' := [(6, .int v6_17), (5, .int (0 : Int32)), (4, .int v6), (3, .int q_10), (7, .int q_10), (0, .ref h_t), (2, .int v2)]) hx hb dX5_fewest_113 hl (k := 6) rfl (by rw [ev6_17]; rfl) (by decide) rfl (fun ls hl => ?_)
            refine lv_goto (tgt := 52) hx hb dX5_fewest_116 (by decide) ?_
            have hk := on_nxL hM hk
            exact ih q_10 v6 (0 : Int32) v6_17 q_9.1 q_9.2 _ hk K1 _ _ hP hD hS ls (lv_sub hl [5, 6, 3, 2, 1, 0] rfl)
          · have hM := on_pos c_16 hM
            obtain ⟨v5_18, ev5_18⟩ : ∃ z : Int32, z = (0 : Int32) + 1 := ⟨_, rfl⟩
            have hM := on_letE ev5_18 hM
            refine lv_iinc (v := v5_18) (lv' := [(5, .int v5_18), (4, .int v6), (3, .int q_10), (7, .int q_10), (0, .ref h_t), (2, .int v2), (6, .int v6)]) hx hb dX5_fewest_110 hl (k := 0) rfl (by rw [ev5_18]; rfl) (by decide) rfl (fun ls hl => ?_)
            obtain ⟨v6_19, ev6_19⟩ : ∃ z : Int32, z = v6 + 2 := ⟨_, rfl⟩
            have hM := on_letE ev6_19 hM
            refine lv_iinc (v := v6_19) (lv' := [(6, .int v6_19), (5, .int v5_18), (4, .int v6), (3, .int q_10), (7, .int q_10), (0, .ref h_t), (2, .int v2)]) hx hb dX5_fewest_113 hl (k := 6) rfl (by rw [ev6_19]; rfl) (by decide) rfl (fun ls hl => ?_)
            refine lv_goto (tgt := 52) hx hb dX5_fewest_116 (by decide) ?_
            have hk := on_nxL hM hk
            exact ih q_10 v6 v5_18 v6_19 q_9.1 q_9.2 _ hk K1 _ _ hP hD hS ls (lv_sub hl [5, 6, 3, 2, 1, 0] rfl)
  refine lv_iload_n hx hb dX5_fewest_0 rfl (lv_at hl 1 rfl) ?_
  obtain ⟨q_1, hq_1, hM⟩ := on_bind hM
  refine on_callS0 (rest := []) (As := [.int v1]) (st1 := [.int q_1]) ⟨hx, hb, hml, hown, hts⟩ (k_X5_isSlot v1 q_1 hq_1) (va_cwS 1 hts gX5_fewest_X5_isSlot rfl rfl rfl hdX5_isSlot ⟨(Nat.le_of_ble_eq_true rfl), (Nat.le_of_ble_eq_true rfl)⟩) hK hN hP hD hS hA rfl hl.1 rfl (Nat.le_of_ble_eq_true rfl) rfl dX5_fewest_1 ⟨Nat.zero_le _, Nat.zero_le _⟩ (fun H locs hP hS => ?_)
  refine lv_if_ne (tgt := 9) hx hb dX5_fewest_4 (by decide) (fun c_2 => ?_) (fun c_2 => ?_)
  · have hM := on_neg c_2 hM
    refine lv_iload_n hx hb dX5_fewest_9 rfl (lv_at hl 2 rfl) ?_
    refine lv_iconst (v := 0) hx hb dX5_fewest_10 (by decide) ?_
    refine lv_iconst (v := 2) hx hb dX5_fewest_11 (by decide) ?_
    obtain ⟨q_3, hq_3, hM⟩ := on_bind hM
    refine on_callS0 (rest := []) (As := [.int v2, .int (0 : Int32), .int (2 : Int32)]) (st1 := [.int q_3]) ⟨hx, hb, hml, hown, hts⟩ (k_X5_within v2 (0 : Int32) (2 : Int32) q_3 hq_3) (va_cwS 3 hts gX5_fewest_X5_within rfl rfl rfl hdX5_within ⟨(Nat.le_of_ble_eq_true rfl), (Nat.le_of_ble_eq_true rfl)⟩) hK hN hP hD hS hA rfl hl.1 rfl (Nat.le_of_ble_eq_true rfl) rfl dX5_fewest_12 ⟨Nat.zero_le _, Nat.zero_le _⟩ (fun H locs hP hS => ?_)
    refine lv_if_ne (tgt := 21) hx hb dX5_fewest_15 (by decide) (fun c_4 => ?_) (fun c_4 => ?_)
    · have hM := on_neg c_4 hM
      refine lv_aload_n hx hb dX5_fewest_21 rfl (lv_at hl 0 rfl) ?_
      refine lv_aload_n hx hb dX5_fewest_22 rfl (lv_at hl 0 rfl) ?_
      refine va_get (D := D) (ci := 5) (v := .ref h_t_net) (C := RX5) (T := TX5) (N := 8) hx hb hts w2 hown hK hP 0 rfl rfl 3 (by decide) w1 (fun _ h9 => h9) rfl dX5_fewest_23 ?_
      refine lv_iload_n hx hb dX5_fewest_26 rfl (lv_at hl 1 rfl) ?_
      obtain ⟨q_5, hq_5, hM⟩ := on_bind hM
      refine on_callV (rest := []) (As := [.ref h_t_net, .int v1]) (st1 := []) (C := RX5) (ci := 5) (q0 := 0) (wc := [(h_t, .inr (5, [.ref h_t_now, .ref h_t_images, .ref h_t_pad, .ref h_t_net, .ref h_t_second, .ref h_t_renumbering, .ref h_t_table, .ref h_t_marks])), (h_t_now, .inr (3, [.int t_now_many, .ref h_t_now_numbers])), (h_t_now_numbers, .inl (cI, 3, .inl t_now_numbers)), (h_t_net, .inr (0, [.int t_net_many, .ref h_t_net_rows])), (h_t_net_rows, .inl (cI, 7, .inl t_net_rows))]) (wr := [(h_t_second, .inr (0, [.int t_second_many, .ref h_t_second_rows])), (h_t_second_rows, .inl (cI, 7, .inl t_second_rows))]) (wc' := [(h_t, .inr (5, [.ref h_t_now, .ref h_t_images, .ref h_t_pad, .ref h_t_net, .ref h_t_second, .ref h_t_renumbering, .ref h_t_table, .ref h_t_marks])), (h_t_now, .inr (3, [.int t_now_many, .ref h_t_now_numbers])), (h_t_now_numbers, .inl (cI, 3, .inl t_now_numbers)), (h_t_net, .inr (0, [.int q_5.1, .ref h_t_net_rows])), (h_t_net_rows, .inl (cI, 7, .inl q_5.2))]) (wf := [(h_t, .inr (5, [.ref h_t_now, .ref h_t_images, .ref h_t_pad, .ref h_t_net, .ref h_t_second, .ref h_t_renumbering, .ref h_t_table, .ref h_t_marks])), (h_t_now, .inr (3, [.int t_now_many, .ref h_t_now_numbers])), (h_t_now_numbers, .inl (cI, 3, .inl t_now_numbers)), (h_t_net, .inr (0, [.int q_5.1, .ref h_t_net_rows])), (h_t_net_rows, .inl (cI, 7, .inl q_5.2)), (h_t_second, .inr (0, [.int t_second_many, .ref h_t_second_rows])), (h_t_second_rows, .inl (cI, 7, .inl t_second_rows))]) (rt := none) ⟨hx, hb, hml, hown, hts⟩ (k_X5_load h_t h_t_now h_t_images h_t_pad h_t_net h_t_second h_t_renumbering h_t_table h_t_marks h_t_now_numbers h_t_net h_t_net_rows t_now_many t_now_numbers t_net_many t_net_rows v1 q_5 hq_5) (cwV 2 hts gX5_fewest_X5_load rfl rfl rfl ⟨rfl, hdX5_load⟩ ⟨(Nat.le_of_ble_eq_true rfl), (Nat.le_of_ble_eq_true rfl)⟩) hK hN hP hD hS hA [0, 1, 2, 3, 4] [5, 6] [2, 3, 4, 5, 6, 0, 1] rfl rfl rfl rfl (by decide) rfl rfl rfl rfl rfl rfl hl.1 rfl (Nat.le_of_ble_eq_true rfl) rfl dX5_fewest_27 ⟨Nat.zero_le _, Nat.zero_le _⟩ (fun H locs hP hD hS => ?_)
      refine lv_aload_n hx hb dX5_fewest_30 rfl (lv_at hl 0 rfl) ?_
      refine va_get (D := D) (ci := 5) (v := .ref h_t_now) (C := RX5) (T := TX5) (N := 8) hx hb hts w2 hown hK hP 0 rfl rfl 0 (by decide) w3 (fun _ h9 => h9) rfl dX5_fewest_31 ?_
      refine va_getN (D := D) (ci := 3) (v := .int t_now_many) (C := RX3) (T := TX3) (N := 2) hx hb hts w4 hown hK hP 1 rfl rfl 0 (by decide) (va_Nw.use rfl (hN _ (List.mem_of_getElem? (i := 0) rfl))) (fun _ h9 => h9) rfl dX5_fewest_34 ?_
      obtain ⟨q_6, hq_6, hM⟩ := on_bind hM
      refine on_callS0 (rest := []) (As := [.int t_now_many]) (st1 := [.int q_6]) ⟨hx, hb, hml, hown, hts⟩ (k_X5_pairsOf t_now_many q_6 hq_6) (va_cwS 1 hts gX5_fewest_X5_pairsOf rfl rfl rfl hdX5_pairsOf ⟨(Nat.le_of_ble_eq_true rfl), (Nat.le_of_ble_eq_true rfl)⟩) hK hN hP hD hS hA rfl hl.1 rfl (Nat.le_of_ble_eq_true rfl) rfl dX5_fewest_37 ⟨Nat.zero_le _, Nat.zero_le _⟩ (fun H locs hP hS => ?_)
      refine lv_iconst (v := 1) hx hb dX5_fewest_40 (by decide) ?_
      refine lv_iadd hx hb dX5_fewest_41 ?_
      refine lv_topi (fun v3_7 ev3_7 => ?_)
      have hM := on_letE ev3_7 hM
      refine lv_istore_n (lv' := [(3, .int v3_7), (0, .ref h_t), (1, .int v1), (2, .int v2)]) hx hb dX5_fewest_42 rfl hl (by decide) rfl (fun ls hl => ?_)
      refine lv_iconst (v := 0) hx hb dX5_fewest_43 (by decide) ?_
      refine lv_istore (lv' := [(4, .int (0 : Int32)), (3, .int v3_7), (0, .ref h_t), (1, .int v1), (2, .int v2)]) hx hb dX5_fewest_44 hl (by decide) rfl (fun ls hl => ?_)
      refine lv_iconst (v := 0) hx hb dX5_fewest_46 (by decide) ?_
      refine lv_istore (lv' := [(5, .int (0 : Int32)), (4, .int (0 : Int32)), (3, .int v3_7), (0, .ref h_t), (1, .int v1), (2, .int v2)]) hx hb dX5_fewest_47 hl (by decide) rfl (fun ls hl => ?_)
      refine lv_iconst (v := 0) hx hb dX5_fewest_49 (by decide) ?_
      refine lv_istore (lv' := [(6, .int (0 : Int32)), (5, .int (0 : Int32)), (4, .int (0 : Int32)), (3, .int v3_7), (0, .ref h_t), (1, .int v1), (2, .int v2)]) hx hb dX5_fewest_50 hl (by decide) rfl (fun ls hl => ?_)
      obtain ⟨q_20, hq_20, hM⟩ := on_bind hM
      refine lp_52 v2 q_5.1 q_5.2 on_F v3_7 (0 : Int32) (0 : Int32) (0 : Int32) t_second_many t_second_rows q_20 hq_20 (fun H locs hP hD hS ls hl => ?_) H locs hP hD hS ls (lv_sub hl [4, 6, 3, 2, 1, 0] rfl)
      refine lv_iload_n hx hb dX5_fewest_119 rfl (lv_at hl 0 rfl) ?_
      refine lv_if_ne (tgt := 127) hx hb dX5_fewest_120 (by decide) (fun c_21 => ?_) (fun c_21 => ?_)
      · have hM := on_neg c_21 hM
        refine lv_iload_n hx hb dX5_fewest_127 rfl (lv_at hl 0 rfl) ?_
        refine lv_iconst (v := 1) hx hb dX5_fewest_128 (by decide) ?_
        refine lv_icmp_ne (tgt := 137) hx hb dX5_fewest_129 (by decide) (fun c_22 => ?_) (fun c_22 => ?_)
        · have hM := on_neg c_22 hM
          refine lv_iload hx hb dX5_fewest_137 (lv_at hl 3 rfl) ?_
          have hM := Option.some.inj hM
          subst hM
          rw [← hQ]
          exact on_iret hx hb hr hlk hP hD hS dX5_fewest_139
        · have hM := on_pos c_22 hM
          refine lv_iload hx hb dX5_fewest_132 (lv_at hl 2 rfl) ?_
          refine lv_goto (tgt := 139) hx hb dX5_fewest_134 (by decide) ?_
          have hM := Option.some.inj hM
          subst hM
          rw [← hQ]
          exact on_iret hx hb hr hlk hP hD hS dX5_fewest_139
      · have hM := on_pos c_21 hM
        refine lv_iload_n hx hb dX5_fewest_123 rfl (lv_at hl 1 rfl) ?_
        refine lv_goto (tgt := 139) hx hb dX5_fewest_124 (by decide) ?_
        have hM := Option.some.inj hM
        subst hM
        rw [← hQ]
        exact on_iret hx hb hr hlk hP hD hS dX5_fewest_139
    · have hM := on_pos c_4 hM
      refine lv_bipush (v := -2) hx hb dX5_fewest_18 (by decide) ?_
      have hM := Option.some.inj hM
      subst hM
      rw [← hQ]
      exact on_iret hx hb hr hlk hP hD hS dX5_fewest_20
  · have hM := on_pos c_2 hM
    refine lv_iconst (v := -1) hx hb dX5_fewest_7 (by decide) ?_
    have hM := Option.some.inj hM
    subst hM
    rw [← hQ]
    exact on_iret hx hb hr hlk hP hD hS dX5_fewest_8
abbrev rm_X0_eachDegreeIs : Room := { frames := 3, cells := 0, slots := 0, locals := 63 }
set_option maxHeartbeats 4000000 in
set_option maxRecDepth 100000 in
theorem k_X0_eachDegreeIs {l : Launch} {D : va_G} {cI cJ cZ cS cA : ClassId} (h_t : Nat) (h_t_rows : Nat) (t_many : Int32) (t_rows : Nat → Int32) (v1 : Int32) (out : Int32) (hM : M_X0_eachDegreeIs v1 t_many t_rows = some out) : on_Con l yX0_eachDegreeIs wsX0_eachDegreeIs rm_X0_eachDegreeIs [.ref h_t, .int v1] D (on_T cI cJ cZ cS cA) [(h_t, .inr (0, [.int t_many, .ref h_t_rows])), (h_t_rows, .inl (cI, 7, .inl t_rows))] (some (.int out)) [(h_t, .inr (0, [.int t_many, .ref h_t_rows])), (h_t_rows, .inl (cI, 7, .inl t_rows))] := by
  unfold M_X0_eachDegreeIs at hM
  refine on_enter (cc := cX0_eachDegreeIs) (nL := 3) (rt := (some .boolean)) (own := RX0) (by decide +kernel) rfl rfl (Nat.le_of_ble_eq_true rfl) ?_
  intro p e s m below meth c A ls hx hb hml hr hlk hts hown hA hK hN H locs hP hD hS hl
  have hl : lv_has ls 3 [(0, .ref h_t), (1, .int v1)] := hl
  generalize hQ : MQ below (on_Q D (some (.int out)) [(h_t, .inr (0, [.int t_many, .ref h_t_rows])), (h_t_rows, .inl (cI, 7, .inl t_rows))] A) _ s 0 0 A = Q
  generalize hAr : List.toArray ([.ref h_t, .int v1] : List Value) = args at hts hQ ⊢
  have w1 := hts (.fieldLink RX0 9 "OddNets$Net" "many" "I") (by decide +kernel)
  have w2 : ∀ w ∈ wsX00, w ∈ wsX0_eachDegreeIs := by decide +kernel
  have lp_20 : ∀ (v1 : Int32), ∀ (n : Nat) (v2 : Int32) (x : Int32 ⊕ Unit), on_loop (fun (s : Int32) => B_X0_eachDegreeIs_20 v1 t_many t_rows s) n v2 = some x → (∀ u, x = Sum.inr u → ∀ (H : Heap) (locs : List Loc), va_P D vwCl [(h_t, .inr (0, [.int t_many, .ref h_t_rows])), (h_t_rows, .inl (cI, 7, .inl t_rows))] H → va_D A [(h_t, .inr (0, [.int t_many, .ref h_t_rows])), (h_t_rows, .inl (cI, 7, .inl t_rows))] → va_S A s.heap H locs → ∀ ls : Array Slot, lv_has ls 3 [] → W p l e rm_X0_eachDegreeIs s m args below meth c H locs 0 0 Q (F0 m 45 ls [])) → (∀ o, x = Sum.inl o → o = out) → ∀ (H : Heap) (locs : List Loc), va_P D vwCl [(h_t, .inr (0, [.int t_many, .ref h_t_rows])), (h_t_rows, .inl (cI, 7, .inl t_rows))] H → va_D A [(h_t, .inr (0, [.int t_many, .ref h_t_rows])), (h_t_rows, .inl (cI, 7, .inl t_rows))] → va_S A s.heap H locs → ∀ ls : Array Slot, lv_has ls 3 [(0, .ref h_t), (1, .int v1), (2, .int v2)] → W p l e rm_X0_eachDegreeIs s m args below meth c H locs 0 0 Q (F0 m 20 ls []) := by
    intro v1
    intro n
    induction n with
    | zero =>
      intro v2 x hL
      exact (on_loop0 hL).elim
    | succ n ih =>
      intro v2 x hL K1 K2 H locs hP hD hS ls hl
      obtain ⟨y, hM, hk⟩ := on_loopE hL
      have hM : B_X0_eachDegreeIs_20 v1 t_many t_rows v2 = some y := hM
      unfold B_X0_eachDegreeIs_20 at hM
      refine lv_iload_n hx hb dX0_eachDegreeIs_20 rfl (lv_at hl 2 rfl) ?_
      refine lv_aload_n hx hb dX0_eachDegreeIs_21 rfl (lv_at hl 0 rfl) ?_
      refine va_get (D := D) (ci := 0) (v := .int t_many) (C := RX0) (T := TX0) (N := 2) hx hb hts w2 hown hK hP 0 rfl rfl 0 (by decide) w1 (fun _ h9 => h9) rfl dX0_eachDegreeIs_22 ?_
      refine lv_icmp_ge (tgt := 45) hx hb dX0_eachDegreeIs_25 (by decide) (fun c_2 => ?_) (fun c_2 => ?_)
      · have hM := on_pos c_2 hM
        have hk := on_nxR hM hk
        subst hk
        exact K1 _ rfl _ _ hP hD hS ls (lv_sub hl [] rfl)
      · have hM := on_neg c_2 hM
        refine lv_aload_n hx hb dX0_eachDegreeIs_28 rfl (lv_at hl 0 rfl) ?_
        refine lv_iload_n hx hb dX0_eachDegreeIs_29 rfl (lv_at hl 2 rfl) ?_
        obtain ⟨q_3, hq_3, hM⟩ := on_bind hM
        refine on_callV (rest := []) (As := [.int v2]) (st1 := [.int q_3]) (C := RX0) (ci := 0) (q0 := 0) (wc := [(h_t, .inr (0, [.int t_many, .ref h_t_rows])), (h_t_rows, .inl (cI, 7, .inl t_rows))]) (wr := []) (wc' := [(h_t, .inr (0, [.int t_many, .ref h_t_rows])), (h_t_rows, .inl (cI, 7, .inl t_rows))]) (wf := [(h_t, .inr (0, [.int t_many, .ref h_t_rows])), (h_t_rows, .inl (cI, 7, .inl t_rows))]) (rt := (some (.int q_3))) ⟨hx, hb, hml, hown, hts⟩ (k_X0_degree h_t h_t_rows t_many t_rows v2 q_3 hq_3) (cwV 1 hts gX0_eachDegreeIs_X0_degree rfl rfl rfl ⟨rfl, hdX0_degree⟩ ⟨(Nat.le_of_ble_eq_true rfl), (Nat.le_of_ble_eq_true rfl)⟩) hK hN hP hD hS hA [0, 1] [] [0, 1] rfl rfl rfl rfl (by decide) rfl rfl rfl rfl rfl rfl hl.1 rfl (Nat.le_of_ble_eq_true rfl) rfl dX0_eachDegreeIs_30 ⟨Nat.zero_le _, Nat.zero_le _⟩ (fun H locs hP hD hS => ?_)
        refine lv_iload_n hx hb dX0_eachDegreeIs_33 rfl (lv_at hl 1 rfl) ?_
        refine lv_icmp_eq (tgt := 39) hx hb dX0_eachDegreeIs_34 (by decide) (fun c_4 => ?_) (fun c_4 => ?_)
        · have hM := on_pos c_4 hM
          obtain ⟨v2_5, ev2_5⟩ : ∃ z : Int32, z = v2 + 1 := ⟨_, rfl⟩
          have hM := on_letE ev2_5 hM
          refine lv_iinc (v := v2_5) (lv' := [(2, .int v2_5), (0, .ref h_t), (1, .int v1)]) hx hb dX0_eachDegreeIs_39 hl (k := 2) rfl (by rw [ev2_5]; rfl) (by decide) rfl (fun ls hl => ?_)
          refine lv_goto (tgt := 20) hx hb dX0_eachDegreeIs_42 (by decide) ?_
          have hk := on_nxL hM hk
          exact ih v2_5 _ hk K1 K2 _ _ hP hD hS ls (lv_sub hl [1, 2, 0] rfl)
        · have hM := on_neg c_4 hM
          refine lv_iconst (v := 0) hx hb dX0_eachDegreeIs_37 (by decide) ?_
          have hk := on_nxR hM hk
          subst hk
          have ho := K2 _ rfl
          subst ho
          rw [← hQ]
          exact on_zret hx hb hr hlk hP hD hS rfl dX0_eachDegreeIs_38
  refine lv_iload_n hx hb dX0_eachDegreeIs_0 rfl (lv_at hl 1 rfl) ?_
  refine lv_iconst (v := -1) hx hb dX0_eachDegreeIs_1 (by decide) ?_
  refine lv_icmp_ne (tgt := 18) hx hb dX0_eachDegreeIs_2 (by decide) (fun c_1 => ?_) (fun c_1 => ?_)
  · have hM := on_neg c_1 hM
    refine lv_iconst (v := 0) hx hb dX0_eachDegreeIs_18 (by decide) ?_
    refine lv_istore_n (lv' := [(2, .int (0 : Int32)), (0, .ref h_t), (1, .int v1)]) hx hb dX0_eachDegreeIs_19 rfl hl (by decide) rfl (fun ls hl => ?_)
    obtain ⟨q_6, hq_6, hM⟩ := on_bind hM
    refine lp_20 v1 on_F (0 : Int32) q_6 hq_6 (fun u_7 hv H locs hP hD hS ls hl => ?_) (fun o ho => ?_) H locs hP hD hS ls (lv_sub hl [1, 2, 0] rfl)
    · subst hv
      have hM := on_elR hM
      refine lv_iconst (v := 1) hx hb dX0_eachDegreeIs_45 (by decide) ?_
      have hM := Option.some.inj hM
      subst hM
      rw [← hQ]
      exact on_zret hx hb hr hlk hP hD hS rfl dX0_eachDegreeIs_46
    · subst ho
      have hM := on_elL hM
      exact Option.some.inj hM
  · have hM := on_pos c_1 hM
    refine lv_aload_n hx hb dX0_eachDegreeIs_5 rfl (lv_at hl 0 rfl) ?_
    obtain ⟨q_8, hq_8, hM⟩ := on_bind hM
    refine on_callV (rest := []) (As := []) (st1 := [.int q_8]) (C := RX0) (ci := 0) (q0 := 0) (wc := [(h_t, .inr (0, [.int t_many, .ref h_t_rows])), (h_t_rows, .inl (cI, 7, .inl t_rows))]) (wr := []) (wc' := [(h_t, .inr (0, [.int t_many, .ref h_t_rows])), (h_t_rows, .inl (cI, 7, .inl t_rows))]) (wf := [(h_t, .inr (0, [.int t_many, .ref h_t_rows])), (h_t_rows, .inl (cI, 7, .inl t_rows))]) (rt := (some (.int q_8))) ⟨hx, hb, hml, hown, hts⟩ (k_X0_oddDegrees h_t h_t_rows t_many t_rows q_8 hq_8) (cwV 0 hts gX0_eachDegreeIs_X0_oddDegrees rfl rfl rfl ⟨rfl, hdX0_oddDegrees⟩ ⟨(Nat.le_of_ble_eq_true rfl), (Nat.le_of_ble_eq_true rfl)⟩) hK hN hP hD hS hA [0, 1] [] [0, 1] rfl rfl rfl rfl (by decide) rfl rfl rfl rfl rfl rfl hl.1 rfl (Nat.le_of_ble_eq_true rfl) rfl dX0_eachDegreeIs_6 ⟨Nat.zero_le _, Nat.zero_le _⟩ (fun H locs hP hD hS => ?_)
    refine lv_if_ne (tgt := 16) hx hb dX0_eachDegreeIs_9 (by decide) (fun c_9 => ?_) (fun c_9 => ?_)
    · have hM := on_neg c_9 hM
      refine lv_iconst (v := 0) hx hb dX0_eachDegreeIs_16 (by decide) ?_
      have hM := Option.some.inj hM
      subst hM
      rw [← hQ]
      exact on_zret hx hb hr hlk hP hD hS rfl dX0_eachDegreeIs_17
    · have hM := on_pos c_9 hM
      refine lv_iconst (v := 1) hx hb dX0_eachDegreeIs_12 (by decide) ?_
      refine lv_goto (tgt := 17) hx hb dX0_eachDegreeIs_13 (by decide) ?_
      have hM := Option.some.inj hM
      subst hM
      rw [← hQ]
      exact on_zret hx hb hr hlk hP hD hS rfl dX0_eachDegreeIs_17
abbrev rm_X0_eachPairSharesAlike : Room := { frames := 2, cells := 0, slots := 0, locals := 42 }
set_option maxHeartbeats 4000000 in
set_option maxRecDepth 100000 in
theorem k_X0_eachPairSharesAlike {l : Launch} {D : va_G} {cI cJ cZ cS cA : ClassId} (h_t : Nat) (h_t_rows : Nat) (t_many : Int32) (t_rows : Nat → Int32) (v1 : Int32) (out : Int32) (hM : M_X0_eachPairSharesAlike v1 t_many t_rows = some out) : on_Con l yX0_eachPairSharesAlike wsX0_eachPairSharesAlike rm_X0_eachPairSharesAlike [.ref h_t, .int v1] D (on_T cI cJ cZ cS cA) [(h_t, .inr (0, [.int t_many, .ref h_t_rows])), (h_t_rows, .inl (cI, 7, .inl t_rows))] (some (.int out)) [(h_t, .inr (0, [.int t_many, .ref h_t_rows])), (h_t_rows, .inl (cI, 7, .inl t_rows))] := by
  unfold M_X0_eachPairSharesAlike at hM
  refine on_enter (cc := cX0_eachPairSharesAlike) (nL := 6) (rt := (some .boolean)) (own := RX0) (by decide +kernel) rfl rfl (Nat.le_of_ble_eq_true rfl) ?_
  intro p e s m below meth c A ls hx hb hml hr hlk hts hown hA hK hN H locs hP hD hS hl
  have hl : lv_has ls 6 [(0, .ref h_t), (1, .int v1)] := hl
  generalize hQ : MQ below (on_Q D (some (.int out)) [(h_t, .inr (0, [.int t_many, .ref h_t_rows])), (h_t_rows, .inl (cI, 7, .inl t_rows))] A) _ s 0 0 A = Q
  generalize hAr : List.toArray ([.ref h_t, .int v1] : List Value) = args at hts hQ ⊢
  have w1 := hts (.fieldLink RX0 9 "OddNets$Net" "many" "I") (by decide +kernel)
  have w2 : ∀ w ∈ wsX00, w ∈ wsX0_eachPairSharesAlike := by decide +kernel
  have lp_18 : ∀ (v1 : Int32) (v3 : Int32), ∀ (n : Nat) (v2 : Int32) (v4 : Int32) (x : Int32 ⊕ Int32), on_loop (fun (s : Int32 × Int32) => B_X0_eachPairSharesAlike_18 v1 v3 t_many t_rows s.1 s.2) n (v2, v4) = some x → (∀ u, x = Sum.inr u → ∀ (H : Heap) (locs : List Loc), va_P D vwCl [(h_t, .inr (0, [.int t_many, .ref h_t_rows])), (h_t_rows, .inl (cI, 7, .inl t_rows))] H → va_D A [(h_t, .inr (0, [.int t_many, .ref h_t_rows])), (h_t_rows, .inl (cI, 7, .inl t_rows))] → va_S A s.heap H locs → ∀ ls : Array Slot, lv_has ls 6 [(0, .ref h_t), (1, .int v1), (2, .int u), (3, .int v3)] → W p l e rm_X0_eachPairSharesAlike s m args below meth c H locs 0 0 Q (F0 m 70 ls [])) → (∀ o, x = Sum.inl o → o = out) → ∀ (H : Heap) (locs : List Loc), va_P D vwCl [(h_t, .inr (0, [.int t_many, .ref h_t_rows])), (h_t_rows, .inl (cI, 7, .inl t_rows))] H → va_D A [(h_t, .inr (0, [.int t_many, .ref h_t_rows])), (h_t_rows, .inl (cI, 7, .inl t_rows))] → va_S A s.heap H locs → ∀ ls : Array Slot, lv_has ls 6 [(0, .ref h_t), (1, .int v1), (2, .int v2), (3, .int v3), (4, .int v4)] → W p l e rm_X0_eachPairSharesAlike s m args below meth c H locs 0 0 Q (F0 m 18 ls []) := by
    intro v1 v3
    intro n
    induction n with
    | zero =>
      intro v2 v4 x hL
      exact (on_loop0 hL).elim
    | succ n ih =>
      intro v2 v4 x hL K1 K2 H locs hP hD hS ls hl
      obtain ⟨y, hM, hk⟩ := on_loopE hL
      have hM : B_X0_eachPairSharesAlike_18 v1 v3 t_many t_rows v2 v4 = some y := hM
      unfold B_X0_eachPairSharesAlike_18 at hM
      refine lv_iload hx hb dX0_eachPairSharesAlike_18 (lv_at hl 4 rfl) ?_
      refine lv_aload_n hx hb dX0_eachPairSharesAlike_20 rfl (lv_at hl 0 rfl) ?_
      refine va_get (D := D) (ci := 0) (v := .int t_many) (C := RX0) (T := TX0) (N := 2) hx hb hts w2 hown hK hP 0 rfl rfl 0 (by decide) w1 (fun _ h9 => h9) rfl dX0_eachPairSharesAlike_21 ?_
      refine lv_icmp_ge (tgt := 70) hx hb dX0_eachPairSharesAlike_24 (by decide) (fun c_3 => ?_) (fun c_3 => ?_)
      · have hM := on_pos c_3 hM
        have hk := on_nxR hM hk
        subst hk
        exact K1 _ rfl _ _ hP hD hS ls (lv_sub hl [0, 1, 2, 3] rfl)
      · have hM := on_neg c_3 hM
        refine lv_aload_n hx hb dX0_eachPairSharesAlike_27 rfl (lv_at hl 0 rfl) ?_
        refine lv_iload_n hx hb dX0_eachPairSharesAlike_28 rfl (lv_at hl 3 rfl) ?_
        refine lv_iload hx hb dX0_eachPairSharesAlike_29 (lv_at hl 4 rfl) ?_
        obtain ⟨q_4, hq_4, hM⟩ := on_bind hM
        refine on_callV (rest := []) (As := [.int v3, .int v4]) (st1 := [.int q_4]) (C := RX0) (ci := 0) (q0 := 0) (wc := [(h_t, .inr (0, [.int t_many, .ref h_t_rows])), (h_t_rows, .inl (cI, 7, .inl t_rows))]) (wr := []) (wc' := [(h_t, .inr (0, [.int t_many, .ref h_t_rows])), (h_t_rows, .inl (cI, 7, .inl t_rows))]) (wf := [(h_t, .inr (0, [.int t_many, .ref h_t_rows])), (h_t_rows, .inl (cI, 7, .inl t_rows))]) (rt := (some (.int q_4))) ⟨hx, hb, hml, hown, hts⟩ (k_X0_joined h_t h_t_rows t_many t_rows v3 v4 q_4 hq_4) (cwV 2 hts gX0_eachPairSharesAlike_X0_joined rfl rfl rfl ⟨rfl, hdX0_joined⟩ ⟨(Nat.le_of_ble_eq_true rfl), (Nat.le_of_ble_eq_true rfl)⟩) hK hN hP hD hS hA [0, 1] [] [0, 1] rfl rfl rfl rfl (by decide) rfl rfl rfl rfl rfl rfl hl.1 rfl (Nat.le_of_ble_eq_true rfl) rfl dX0_eachPairSharesAlike_31 ⟨Nat.zero_le _, Nat.zero_le _⟩ (fun H locs hP hD hS => ?_)
        refine lv_iload_n hx hb dX0_eachPairSharesAlike_34 rfl (lv_at hl 1 rfl) ?_
        refine lv_icmp_ne (tgt := 64) hx hb dX0_eachPairSharesAlike_35 (by decide) (fun c_5 => ?_) (fun c_5 => ?_)
        · have hM := on_neg c_5 hM
          obtain ⟨v4_6, ev4_6⟩ : ∃ z : Int32, z = v4 + 1 := ⟨_, rfl⟩
          have hM := on_letE ev4_6 hM
          refine lv_iinc (v := v4_6) (lv' := [(4, .int v4_6), (0, .ref h_t), (1, .int v1), (2, .int v2), (3, .int v3)]) hx hb dX0_eachPairSharesAlike_64 hl (k := 4) rfl (by rw [ev4_6]; rfl) (by decide) rfl (fun ls hl => ?_)
          refine lv_goto (tgt := 18) hx hb dX0_eachPairSharesAlike_67 (by decide) ?_
          have hk := on_nxL hM hk
          exact ih v2 v4_6 _ hk K1 K2 _ _ hP hD hS ls (lv_sub hl [1, 2, 3, 4, 0] rfl)
        · have hM := on_pos c_5 hM
          refine lv_aload_n hx hb dX0_eachPairSharesAlike_38 rfl (lv_at hl 0 rfl) ?_
          refine lv_iload_n hx hb dX0_eachPairSharesAlike_39 rfl (lv_at hl 3 rfl) ?_
          refine lv_iload hx hb dX0_eachPairSharesAlike_40 (lv_at hl 4 rfl) ?_
          obtain ⟨q_7, hq_7, hM⟩ := on_bind hM
          refine on_callV (rest := []) (As := [.int v3, .int v4]) (st1 := [.int q_7]) (C := RX0) (ci := 0) (q0 := 0) (wc := [(h_t, .inr (0, [.int t_many, .ref h_t_rows])), (h_t_rows, .inl (cI, 7, .inl t_rows))]) (wr := []) (wc' := [(h_t, .inr (0, [.int t_many, .ref h_t_rows])), (h_t_rows, .inl (cI, 7, .inl t_rows))]) (wf := [(h_t, .inr (0, [.int t_many, .ref h_t_rows])), (h_t_rows, .inl (cI, 7, .inl t_rows))]) (rt := (some (.int q_7))) ⟨hx, hb, hml, hown, hts⟩ (k_X0_shared h_t h_t_rows t_many t_rows v3 v4 q_7 hq_7) (cwV 2 hts gX0_eachPairSharesAlike_X0_shared rfl rfl rfl ⟨rfl, hdX0_shared⟩ ⟨(Nat.le_of_ble_eq_true rfl), (Nat.le_of_ble_eq_true rfl)⟩) hK hN hP hD hS hA [0, 1] [] [0, 1] rfl rfl rfl rfl (by decide) rfl rfl rfl rfl rfl rfl hl.1 rfl (Nat.le_of_ble_eq_true rfl) rfl dX0_eachPairSharesAlike_42 ⟨Nat.zero_le _, Nat.zero_le _⟩ (fun H locs hP hD hS => ?_)
          refine lv_istore (lv' := [(5, .int q_7), (0, .ref h_t), (1, .int v1), (2, .int v2), (3, .int v3), (4, .int v4)]) hx hb dX0_eachPairSharesAlike_45 hl (by decide) rfl (fun ls hl => ?_)
          refine lv_iload_n hx hb dX0_eachPairSharesAlike_47 rfl (lv_at hl 3 rfl) ?_
          refine lv_bipush (v := -6) hx hb dX0_eachPairSharesAlike_48 (by decide) ?_
          refine lv_icmp_eq (tgt := 61) hx hb dX0_eachPairSharesAlike_50 (by decide) (fun c_8 => ?_) (fun c_8 => ?_)
          · have hM := on_pos c_8 hM
            refine lv_iload hx hb dX0_eachPairSharesAlike_61 (lv_at hl 0 rfl) ?_
            refine lv_istore_n (lv' := [(2, .int q_7), (5, .int q_7), (0, .ref h_t), (1, .int v1), (3, .int v3), (4, .int v4)]) hx hb dX0_eachPairSharesAlike_63 rfl hl (by decide) rfl (fun ls hl => ?_)
            obtain ⟨v4_9, ev4_9⟩ : ∃ z : Int32, z = v4 + 1 := ⟨_, rfl⟩
            have hM := on_letE ev4_9 hM
            refine lv_iinc (v := v4_9) (lv' := [(4, .int v4_9), (2, .int q_7), (5, .int q_7), (0, .ref h_t), (1, .int v1), (3, .int v3)]) hx hb dX0_eachPairSharesAlike_64 hl (k := 5) rfl (by rw [ev4_9]; rfl) (by decide) rfl (fun ls hl => ?_)
            refine lv_goto (tgt := 18) hx hb dX0_eachPairSharesAlike_67 (by decide) ?_
            have hk := on_nxL hM hk
            exact ih q_7 v4_9 _ hk K1 K2 _ _ hP hD hS ls (lv_sub hl [3, 4, 1, 5, 0] rfl)
          · have hM := on_neg c_8 hM
            refine lv_iload_n hx hb dX0_eachPairSharesAlike_53 rfl (lv_at hl 3 rfl) ?_
            refine lv_iload hx hb dX0_eachPairSharesAlike_54 (lv_at hl 0 rfl) ?_
            refine lv_icmp_eq (tgt := 61) hx hb dX0_eachPairSharesAlike_56 (by decide) (fun c_10 => ?_) (fun c_10 => ?_)
            · have hM := on_pos c_10 hM
              refine lv_iload hx hb dX0_eachPairSharesAlike_61 (lv_at hl 0 rfl) ?_
              refine lv_istore_n (lv' := [(2, .int q_7), (5, .int q_7), (0, .ref h_t), (1, .int v1), (3, .int v3), (4, .int v4)]) hx hb dX0_eachPairSharesAlike_63 rfl hl (by decide) rfl (fun ls hl => ?_)
              obtain ⟨v4_11, ev4_11⟩ : ∃ z : Int32, z = v4 + 1 := ⟨_, rfl⟩
              have hM := on_letE ev4_11 hM
              refine lv_iinc (v := v4_11) (lv' := [(4, .int v4_11), (2, .int q_7), (5, .int q_7), (0, .ref h_t), (1, .int v1), (3, .int v3)]) hx hb dX0_eachPairSharesAlike_64 hl (k := 5) rfl (by rw [ev4_11]; rfl) (by decide) rfl (fun ls hl => ?_)
              refine lv_goto (tgt := 18) hx hb dX0_eachPairSharesAlike_67 (by decide) ?_
              have hk := on_nxL hM hk
              exact ih q_7 v4_11 _ hk K1 K2 _ _ hP hD hS ls (lv_sub hl [3, 4, 1, 5, 0] rfl)
            · have hM := on_neg c_10 hM
              refine lv_iconst (v := 0) hx hb dX0_eachPairSharesAlike_59 (by decide) ?_
              have hk := on_nxR hM hk
              subst hk
              have ho := K2 _ rfl
              subst ho
              rw [← hQ]
              exact on_zret hx hb hr hlk hP hD hS rfl dX0_eachPairSharesAlike_60
  have lp_5 : ∀ (v1 : Int32), ∀ (n : Nat) (v2 : Int32) (v3 : Int32) (x : Int32 ⊕ Unit), on_loop (fun (s : Int32 × Int32) => B_X0_eachPairSharesAlike_5 v1 t_many t_rows s.1 s.2) n (v2, v3) = some x → (∀ u, x = Sum.inr u → ∀ (H : Heap) (locs : List Loc), va_P D vwCl [(h_t, .inr (0, [.int t_many, .ref h_t_rows])), (h_t_rows, .inl (cI, 7, .inl t_rows))] H → va_D A [(h_t, .inr (0, [.int t_many, .ref h_t_rows])), (h_t_rows, .inl (cI, 7, .inl t_rows))] → va_S A s.heap H locs → ∀ ls : Array Slot, lv_has ls 6 [] → W p l e rm_X0_eachPairSharesAlike s m args below meth c H locs 0 0 Q (F0 m 76 ls [])) → (∀ o, x = Sum.inl o → o = out) → ∀ (H : Heap) (locs : List Loc), va_P D vwCl [(h_t, .inr (0, [.int t_many, .ref h_t_rows])), (h_t_rows, .inl (cI, 7, .inl t_rows))] H → va_D A [(h_t, .inr (0, [.int t_many, .ref h_t_rows])), (h_t_rows, .inl (cI, 7, .inl t_rows))] → va_S A s.heap H locs → ∀ ls : Array Slot, lv_has ls 6 [(0, .ref h_t), (1, .int v1), (2, .int v2), (3, .int v3)] → W p l e rm_X0_eachPairSharesAlike s m args below meth c H locs 0 0 Q (F0 m 5 ls []) := by
    intro v1
    intro n
    induction n with
    | zero =>
      intro v2 v3 x hL
      exact (on_loop0 hL).elim
    | succ n ih =>
      intro v2 v3 x hL K1 K2 H locs hP hD hS ls hl
      obtain ⟨y, hM, hk⟩ := on_loopE hL
      have hM : B_X0_eachPairSharesAlike_5 v1 t_many t_rows v2 v3 = some y := hM
      unfold B_X0_eachPairSharesAlike_5 at hM
      refine lv_iload_n hx hb dX0_eachPairSharesAlike_5 rfl (lv_at hl 3 rfl) ?_
      refine lv_aload_n hx hb dX0_eachPairSharesAlike_6 rfl (lv_at hl 0 rfl) ?_
      refine va_get (D := D) (ci := 0) (v := .int t_many) (C := RX0) (T := TX0) (N := 2) hx hb hts w2 hown hK hP 0 rfl rfl 0 (by decide) w1 (fun _ h9 => h9) rfl dX0_eachPairSharesAlike_7 ?_
      refine lv_icmp_ge (tgt := 76) hx hb dX0_eachPairSharesAlike_10 (by decide) (fun c_1 => ?_) (fun c_1 => ?_)
      · have hM := on_pos c_1 hM
        have hk := on_nxR hM hk
        subst hk
        exact K1 _ rfl _ _ hP hD hS ls (lv_sub hl [] rfl)
      · have hM := on_neg c_1 hM
        refine lv_iload_n hx hb dX0_eachPairSharesAlike_13 rfl (lv_at hl 3 rfl) ?_
        refine lv_iconst (v := 1) hx hb dX0_eachPairSharesAlike_14 (by decide) ?_
        refine lv_iadd hx hb dX0_eachPairSharesAlike_15 ?_
        refine lv_topi (fun v4_2 ev4_2 => ?_)
        have hM := on_letE ev4_2 hM
        refine lv_istore (lv' := [(4, .int v4_2), (0, .ref h_t), (1, .int v1), (2, .int v2), (3, .int v3)]) hx hb dX0_eachPairSharesAlike_16 hl (by decide) rfl (fun ls hl => ?_)
        obtain ⟨q_12, hq_12, hM⟩ := on_bind hM
        refine lp_18 v1 v3 on_F v2 v4_2 q_12 hq_12 (fun u_13 hv H locs hP hD hS ls hl => ?_) (fun o ho => ?_) H locs hP hD hS ls (lv_sub hl [1, 2, 3, 4, 0] rfl)
        · subst hv
          have hM := on_elR hM
          obtain ⟨v3_14, ev3_14⟩ : ∃ z : Int32, z = v3 + 1 := ⟨_, rfl⟩
          have hM := on_letE ev3_14 hM
          refine lv_iinc (v := v3_14) (lv' := [(3, .int v3_14), (0, .ref h_t), (1, .int v1), (2, .int u_13)]) hx hb dX0_eachPairSharesAlike_70 hl (k := 3) rfl (by rw [ev3_14]; rfl) (by decide) rfl (fun ls hl => ?_)
          refine lv_goto (tgt := 5) hx hb dX0_eachPairSharesAlike_73 (by decide) ?_
          have hk := on_nxL hM hk
          exact ih u_13 v3_14 _ hk K1 K2 _ _ hP hD hS ls (lv_sub hl [1, 2, 3, 0] rfl)
        · subst ho
          have hM := on_elL hM
          have hk := on_nxR hM hk
          subst hk
          exact K2 _ rfl
  refine lv_bipush (v := -6) hx hb dX0_eachPairSharesAlike_0 (by decide) ?_
  refine lv_istore_n (lv' := [(2, .int (-6 : Int32)), (0, .ref h_t), (1, .int v1)]) hx hb dX0_eachPairSharesAlike_2 rfl hl (by decide) rfl (fun ls hl => ?_)
  refine lv_iconst (v := 0) hx hb dX0_eachPairSharesAlike_3 (by decide) ?_
  refine lv_istore_n (lv' := [(3, .int (0 : Int32)), (2, .int (-6 : Int32)), (0, .ref h_t), (1, .int v1)]) hx hb dX0_eachPairSharesAlike_4 rfl hl (by decide) rfl (fun ls hl => ?_)
  obtain ⟨q_15, hq_15, hM⟩ := on_bind hM
  refine lp_5 v1 on_F (-6 : Int32) (0 : Int32) q_15 hq_15 (fun u_16 hv H locs hP hD hS ls hl => ?_) (fun o ho => ?_) H locs hP hD hS ls (lv_sub hl [2, 3, 1, 0] rfl)
  · subst hv
    have hM := on_elR hM
    refine lv_iconst (v := 1) hx hb dX0_eachPairSharesAlike_76 (by decide) ?_
    have hM := Option.some.inj hM
    subst hM
    rw [← hQ]
    exact on_zret hx hb hr hlk hP hD hS rfl dX0_eachPairSharesAlike_77
  · subst ho
    have hM := on_elL hM
    exact Option.some.inj hM
abbrev rm_X0_isStrong : Room := { frames := 3, cells := 0, slots := 0, locals := 67 }
set_option maxHeartbeats 4000000 in
set_option maxRecDepth 100000 in
theorem k_X0_isStrong {l : Launch} {D : va_G} {cI cJ cZ cS cA : ClassId} (h_t : Nat) (h_t_rows : Nat) (t_many : Int32) (t_rows : Nat → Int32)  (out : Int32) (hM : M_X0_isStrong t_many t_rows = some out) : on_Con l yX0_isStrong wsX0_isStrong rm_X0_isStrong [.ref h_t] D (on_T cI cJ cZ cS cA) [(h_t, .inr (0, [.int t_many, .ref h_t_rows])), (h_t_rows, .inl (cI, 7, .inl t_rows))] (some (.int out)) [(h_t, .inr (0, [.int t_many, .ref h_t_rows])), (h_t_rows, .inl (cI, 7, .inl t_rows))] := by
  unfold M_X0_isStrong at hM
  refine on_enter (cc := cX0_isStrong) (nL := 1) (rt := (some .boolean)) (own := RX0) (by decide +kernel) rfl rfl (Nat.le_of_ble_eq_true rfl) ?_
  intro p e s m below meth c A ls hx hb hml hr hlk hts hown hA hK hN H locs hP hD hS hl
  have hl : lv_has ls 1 [(0, .ref h_t)] := hl
  generalize hQ : MQ below (on_Q D (some (.int out)) [(h_t, .inr (0, [.int t_many, .ref h_t_rows])), (h_t_rows, .inl (cI, 7, .inl t_rows))] A) _ s 0 0 A = Q
  generalize hAr : List.toArray ([.ref h_t] : List Value) = args at hts hQ ⊢
  refine lv_aload_n hx hb dX0_isStrong_0 rfl (lv_at hl 0 rfl) ?_
  refine lv_iconst (v := 1) hx hb dX0_isStrong_1 (by decide) ?_
  obtain ⟨q_1, hq_1, hM⟩ := on_bind hM
  refine on_callV (rest := []) (As := [.int (1 : Int32)]) (st1 := [.int q_1]) (C := RX0) (ci := 0) (q0 := 0) (wc := [(h_t, .inr (0, [.int t_many, .ref h_t_rows])), (h_t_rows, .inl (cI, 7, .inl t_rows))]) (wr := []) (wc' := [(h_t, .inr (0, [.int t_many, .ref h_t_rows])), (h_t_rows, .inl (cI, 7, .inl t_rows))]) (wf := [(h_t, .inr (0, [.int t_many, .ref h_t_rows])), (h_t_rows, .inl (cI, 7, .inl t_rows))]) (rt := (some (.int q_1))) ⟨hx, hb, hml, hown, hts⟩ (k_X0_eachPairSharesAlike h_t h_t_rows t_many t_rows (1 : Int32) q_1 hq_1) (cwV 1 hts gX0_isStrong_X0_eachPairSharesAlike rfl rfl rfl ⟨rfl, hdX0_eachPairSharesAlike⟩ ⟨(Nat.le_of_ble_eq_true rfl), (Nat.le_of_ble_eq_true rfl)⟩) hK hN hP hD hS hA [0, 1] [] [0, 1] rfl rfl rfl rfl (by decide) rfl rfl rfl rfl rfl rfl hl.1 rfl (Nat.le_of_ble_eq_true rfl) rfl dX0_isStrong_2 ⟨Nat.zero_le _, Nat.zero_le _⟩ (fun H locs hP hD hS => ?_)
  refine lv_if_eq (tgt := 20) hx hb dX0_isStrong_5 (by decide) (fun c_2 => ?_) (fun c_2 => ?_)
  · have hM := on_pos c_2 hM
    refine lv_iconst (v := 0) hx hb dX0_isStrong_20 (by decide) ?_
    have hM := Option.some.inj hM
    subst hM
    rw [← hQ]
    exact on_zret hx hb hr hlk hP hD hS rfl dX0_isStrong_21
  · have hM := on_neg c_2 hM
    refine lv_aload_n hx hb dX0_isStrong_8 rfl (lv_at hl 0 rfl) ?_
    refine lv_iconst (v := 0) hx hb dX0_isStrong_9 (by decide) ?_
    obtain ⟨q_3, hq_3, hM⟩ := on_bind hM
    refine on_callV (rest := []) (As := [.int (0 : Int32)]) (st1 := [.int q_3]) (C := RX0) (ci := 0) (q0 := 0) (wc := [(h_t, .inr (0, [.int t_many, .ref h_t_rows])), (h_t_rows, .inl (cI, 7, .inl t_rows))]) (wr := []) (wc' := [(h_t, .inr (0, [.int t_many, .ref h_t_rows])), (h_t_rows, .inl (cI, 7, .inl t_rows))]) (wf := [(h_t, .inr (0, [.int t_many, .ref h_t_rows])), (h_t_rows, .inl (cI, 7, .inl t_rows))]) (rt := (some (.int q_3))) ⟨hx, hb, hml, hown, hts⟩ (k_X0_eachPairSharesAlike h_t h_t_rows t_many t_rows (0 : Int32) q_3 hq_3) (cwV 1 hts gX0_isStrong_X0_eachPairSharesAlike rfl rfl rfl ⟨rfl, hdX0_eachPairSharesAlike⟩ ⟨(Nat.le_of_ble_eq_true rfl), (Nat.le_of_ble_eq_true rfl)⟩) hK hN hP hD hS hA [0, 1] [] [0, 1] rfl rfl rfl rfl (by decide) rfl rfl rfl rfl rfl rfl hl.1 rfl (Nat.le_of_ble_eq_true rfl) rfl dX0_isStrong_10 ⟨Nat.zero_le _, Nat.zero_le _⟩ (fun H locs hP hD hS => ?_)
    refine lv_if_eq (tgt := 20) hx hb dX0_isStrong_13 (by decide) (fun c_4 => ?_) (fun c_4 => ?_)
    · have hM := on_pos c_4 hM
      refine lv_iconst (v := 0) hx hb dX0_isStrong_20 (by decide) ?_
      have hM := Option.some.inj hM
      subst hM
      rw [← hQ]
      exact on_zret hx hb hr hlk hP hD hS rfl dX0_isStrong_21
    · have hM := on_neg c_4 hM
      refine lv_iconst (v := 1) hx hb dX0_isStrong_16 (by decide) ?_
      refine lv_goto (tgt := 21) hx hb dX0_isStrong_17 (by decide) ?_
      have hM := Option.some.inj hM
      subst hM
      rw [← hQ]
      exact on_zret hx hb hr hlk hP hD hS rfl dX0_isStrong_21
abbrev rm_X5_howManyBy : Room := { frames := 4, cells := 0, slots := 0, locals := 87 }
set_option maxHeartbeats 4000000 in
set_option maxRecDepth 100000 in
theorem k_X5_howManyBy {l : Launch} {D : va_G} {cI cJ cZ cS cA : ClassId} (h_t : Nat) (h_t_now : Nat) (h_t_images : Nat) (h_t_pad : Nat) (h_t_net : Nat) (h_t_second : Nat) (h_t_renumbering : Nat) (h_t_table : Nat) (h_t_marks : Nat) (h_t_net_rows : Nat) (h_t_second_rows : Nat) (t_net_many : Int32) (t_net_rows : Nat → Int32) (t_second_many : Int32) (t_second_rows : Nat → Int32) (v1 : Int32) (v2 : Int32) (out : Int32 × Int32 × (Nat → Int32)) (hM : M_X5_howManyBy v1 v2 t_net_many t_net_rows t_second_many t_second_rows = some out) : on_Con l yX5_howManyBy wsX5_howManyBy rm_X5_howManyBy [.ref h_t, .int v1, .int v2] D (on_T cI cJ cZ cS cA) [(h_t, .inr (5, [.ref h_t_now, .ref h_t_images, .ref h_t_pad, .ref h_t_net, .ref h_t_second, .ref h_t_renumbering, .ref h_t_table, .ref h_t_marks])), (h_t_net, .inr (0, [.int t_net_many, .ref h_t_net_rows])), (h_t_net_rows, .inl (cI, 7, .inl t_net_rows)), (h_t_second, .inr (0, [.int t_second_many, .ref h_t_second_rows])), (h_t_second_rows, .inl (cI, 7, .inl t_second_rows))] (some (.int out.1)) [(h_t, .inr (5, [.ref h_t_now, .ref h_t_images, .ref h_t_pad, .ref h_t_net, .ref h_t_second, .ref h_t_renumbering, .ref h_t_table, .ref h_t_marks])), (h_t_net, .inr (0, [.int t_net_many, .ref h_t_net_rows])), (h_t_net_rows, .inl (cI, 7, .inl t_net_rows)), (h_t_second, .inr (0, [.int out.2.1, .ref h_t_second_rows])), (h_t_second_rows, .inl (cI, 7, .inl out.2.2))] := by
  unfold M_X5_howManyBy at hM
  refine on_enter (cc := cX5_howManyBy) (nL := 5) (rt := (some .int)) (own := RX5) (by decide +kernel) rfl rfl (Nat.le_of_ble_eq_true rfl) ?_
  intro p e s m below meth c A ls hx hb hml hr hlk hts hown hA hK hN H locs hP hD hS hl
  have hl : lv_has ls 5 [(0, .ref h_t), (1, .int v1), (2, .int v2)] := hl
  generalize hQ : MQ below (on_Q D (some (.int out.1)) [(h_t, .inr (5, [.ref h_t_now, .ref h_t_images, .ref h_t_pad, .ref h_t_net, .ref h_t_second, .ref h_t_renumbering, .ref h_t_table, .ref h_t_marks])), (h_t_net, .inr (0, [.int t_net_many, .ref h_t_net_rows])), (h_t_net_rows, .inl (cI, 7, .inl t_net_rows)), (h_t_second, .inr (0, [.int out.2.1, .ref h_t_second_rows])), (h_t_second_rows, .inl (cI, 7, .inl out.2.2))] A) _ s 0 0 A = Q
  generalize hAr : List.toArray ([.ref h_t, .int v1, .int v2] : List Value) = args at hts hQ ⊢
  have w1 := hts (.fieldLink RX5 30 "OddNets" "net" "LOddNets$Net;") (by decide +kernel)
  have w2 : ∀ w ∈ wsX50, w ∈ wsX5_howManyBy := by decide +kernel
  have w3 : ∀ w ∈ wsX00, w ∈ wsX5_howManyBy := by decide +kernel
  have w4 := hts (.fieldLink RX5 34 "OddNets" "second" "LOddNets$Net;") (by decide +kernel)
  have w5 := hts (.initialized RX0) (by decide +kernel)
  have w6 := hts (.instanceMethod yX0_copySwitched) (by decide +kernel)
  have w7 := hts (.selects RX0 yX0_copySwitched yX0_copySwitched) (by decide +kernel)
  have w8 := hts (.instanceMethod yX0_eachDegreeIs) (by decide +kernel)
  have w9 := hts (.selects RX0 yX0_eachDegreeIs yX0_eachDegreeIs) (by decide +kernel)
  have w10 := hts (.instanceMethod yX0_isStrong) (by decide +kernel)
  have w11 := hts (.selects RX0 yX0_isStrong yX0_isStrong) (by decide +kernel)
  have lp_5 : ∀ (v1 : Int32) (v2 : Int32), ∀ (n : Nat) (v3 : Int32) (v4 : Int32) (t_second_many : Int32) (t_second_rows : Nat → Int32) (x : Int32 × Int32 × (Nat → Int32)), on_loop (fun (s : Int32 × Int32 × Int32 × (Nat → Int32)) => B_X5_howManyBy_5 v1 v2 t_net_many t_net_rows s.1 s.2.1 s.2.2.1 s.2.2.2) n (v3, v4, t_second_many, t_second_rows) = some x → (∀ (H : Heap) (locs : List Loc), va_P D vwCl [(h_t, .inr (5, [.ref h_t_now, .ref h_t_images, .ref h_t_pad, .ref h_t_net, .ref h_t_second, .ref h_t_renumbering, .ref h_t_table, .ref h_t_marks])), (h_t_net, .inr (0, [.int t_net_many, .ref h_t_net_rows])), (h_t_net_rows, .inl (cI, 7, .inl t_net_rows)), (h_t_second, .inr (0, [.int x.2.1, .ref h_t_second_rows])), (h_t_second_rows, .inl (cI, 7, .inl x.2.2))] H → va_D A [(h_t, .inr (5, [.ref h_t_now, .ref h_t_images, .ref h_t_pad, .ref h_t_net, .ref h_t_second, .ref h_t_renumbering, .ref h_t_table, .ref h_t_marks])), (h_t_net, .inr (0, [.int t_net_many, .ref h_t_net_rows])), (h_t_net_rows, .inl (cI, 7, .inl t_net_rows)), (h_t_second, .inr (0, [.int x.2.1, .ref h_t_second_rows])), (h_t_second_rows, .inl (cI, 7, .inl x.2.2))] → va_S A s.heap H locs → ∀ ls : Array Slot, lv_has ls 5 [(3, .int x.1)] → W p l e rm_X5_howManyBy s m args below meth c H locs 0 0 Q (F0 m 66 ls [])) → ∀ (H : Heap) (locs : List Loc), va_P D vwCl [(h_t, .inr (5, [.ref h_t_now, .ref h_t_images, .ref h_t_pad, .ref h_t_net, .ref h_t_second, .ref h_t_renumbering, .ref h_t_table, .ref h_t_marks])), (h_t_net, .inr (0, [.int t_net_many, .ref h_t_net_rows])), (h_t_net_rows, .inl (cI, 7, .inl t_net_rows)), (h_t_second, .inr (0, [.int t_second_many, .ref h_t_second_rows])), (h_t_second_rows, .inl (cI, 7, .inl t_second_rows))] H → va_D A [(h_t, .inr (5, [.ref h_t_now, .ref h_t_images, .ref h_t_pad, .ref h_t_net, .ref h_t_second, .ref h_t_renumbering, .ref h_t_table, .ref h_t_marks])), (h_t_net, .inr (0, [.int t_net_many, .ref h_t_net_rows])), (h_t_net_rows, .inl (cI, 7, .inl t_net_rows)), (h_t_second, .inr (0, [.int t_second_many, .ref h_t_second_rows])), (h_t_second_rows, .inl (cI, 7, .inl t_second_rows))] → va_S A s.heap H locs → ∀ ls : Array Slot, lv_has ls 5 [(0, .ref h_t), (1, .int v1), (2, .int v2), (3, .int v3), (4, .int v4)] → W p l e rm_X5_howManyBy s m args below meth c H locs 0 0 Q (F0 m 5 ls []) := by
    intro v1 v2
    intro n
    induction n with
    | zero =>
      intro v3 v4 t_second_many t_second_rows x hL
      exact (on_loop0 hL).elim
    | succ n ih =>
      intro v3 v4 t_second_many t_second_rows x hL K1 H locs hP hD hS ls hl
      obtain ⟨y, hM, hk⟩ := on_loopE hL
      have hM : B_X5_howManyBy_5 v1 v2 t_net_many t_net_rows v3 v4 t_second_many t_second_rows = some y := hM
      unfold B_X5_howManyBy_5 at hM
      refine lv_iload hx hb dX5_howManyBy_5 (lv_at hl 4 rfl) ?_
      refine lv_iconst (v := 1) hx hb dX5_howManyBy_7 (by decide) ?_
      refine lv_aload_n hx hb dX5_howManyBy_8 rfl (lv_at hl 0 rfl) ?_
      refine va_get (D := D) (ci := 5) (v := .ref h_t_net) (C := RX5) (T := TX5) (N := 8) hx hb hts w2 hown hK hP 0 rfl rfl 3 (by decide) w1 (fun _ h9 => h9) rfl dX5_howManyBy_9 ?_
      refine va_getN (D := D) (ci := 0) (v := .int t_net_many) (C := RX0) (T := TX0) (N := 2) hx hb hts w3 hown hK hP 1 rfl rfl 0 (by decide) (va_Nw.use rfl (hN _ (List.mem_of_getElem? (i := 5) rfl))) (fun _ h9 => h9) rfl dX5_howManyBy_12 ?_
      refine lv_ishl hx hb dX5_howManyBy_15 ?_
      refine lv_icmp_ge (tgt := 66) hx hb dX5_howManyBy_16 (by decide) (fun c_1 => ?_) (fun c_1 => ?_)
      · have hM := on_pos c_1 hM
        have hk := on_nxR hM hk
        subst hk
        exact K1 _ _ hP hD hS ls (lv_sub hl [3] rfl)
      · have hM := on_neg c_1 hM
        refine lv_aload_n hx hb dX5_howManyBy_19 rfl (lv_at hl 0 rfl) ?_
        refine va_get (D := D) (ci := 5) (v := .ref h_t_second) (C := RX5) (T := TX5) (N := 8) hx hb hts w2 hown hK hP 0 rfl rfl 4 (by decide) w4 (fun _ h9 => h9) rfl dX5_howManyBy_20 ?_
        refine lv_aload_n hx hb dX5_howManyBy_23 rfl (lv_at hl 0 rfl) ?_
        refine va_get (D := D) (ci := 5) (v := .ref h_t_net) (C := RX5) (T := TX5) (N := 8) hx hb hts w2 hown hK hP 0 rfl rfl 3 (by decide) w1 (fun _ h9 => h9) rfl dX5_howManyBy_24 ?_
        refine lv_iload hx hb dX5_howManyBy_27 (lv_at hl 4 rfl) ?_
        obtain ⟨q_2, hq_2, hM⟩ := on_bind hM
        refine on_callVN (rest := []) (As := [.ref h_t_net, .int v4]) (st1 := []) (C := RX0) (ci := 0) (q0 := 3) (wc := [(h_t_second, .inr (0, [.int t_second_many, .ref h_t_second_rows])), (h_t_second_rows, .inl (cI, 7, .inl t_second_rows)), (h_t_net, .inr (0, [.int t_net_many, .ref h_t_net_rows])), (h_t_net_rows, .inl (cI, 7, .inl t_net_rows))]) (wr := [(h_t, .inr (5, [.ref h_t_now, .ref h_t_images, .ref h_t_pad, .ref h_t_net, .ref h_t_second, .ref h_t_renumbering, .ref h_t_table, .ref h_t_marks]))]) (wc' := [(h_t_second, .inr (0, [.int q_2.1, .ref h_t_second_rows])), (h_t_second_rows, .inl (cI, 7, .inl q_2.2)), (h_t_net, .inr (0, [.int t_net_many, .ref h_t_net_rows])), (h_t_net_rows, .inl (cI, 7, .inl t_net_rows))]) (wf := [(h_t, .inr (5, [.ref h_t_now, .ref h_t_images, .ref h_t_pad, .ref h_t_net, .ref h_t_second, .ref h_t_renumbering, .ref h_t_table, .ref h_t_marks])), (h_t_net, .inr (0, [.int t_net_many, .ref h_t_net_rows])), (h_t_net_rows, .inl (cI, 7, .inl t_net_rows)), (h_t_second, .inr (0, [.int q_2.1, .ref h_t_second_rows])), (h_t_second_rows, .inl (cI, 7, .inl q_2.2))]) (rt := none) ⟨hx, hb, hml, hown, hts⟩ (k_X0_copySwitched h_t_second h_t_second_rows h_t_net h_t_net_rows t_second_many t_second_rows t_net_many t_net_rows v4 q_2 hq_2) ⟨va_cnB 2 hts gX5_howManyBy_X0_copySwitched_n151 rfl rfl rfl (hN _ (List.mem_of_getElem? (i := 37) rfl)) w5 hdX0_copySwitched ⟨(Nat.le_of_ble_eq_true rfl), (Nat.le_of_ble_eq_true rfl)⟩, w6, w7⟩ hK hN hP hD hS hA [3, 4, 1, 2] [0] [0, 3, 4, 1, 2] rfl rfl rfl rfl (by decide) rfl rfl rfl rfl rfl rfl hl.1 rfl (Nat.le_of_ble_eq_true rfl) rfl dX5_howManyBy_29 ⟨Nat.zero_le _, Nat.zero_le _⟩ (fun H locs hP hD hS => ?_)
        refine lv_aload_n hx hb dX5_howManyBy_32 rfl (lv_at hl 0 rfl) ?_
        refine va_get (D := D) (ci := 5) (v := .ref h_t_second) (C := RX5) (T := TX5) (N := 8) hx hb hts w2 hown hK hP 0 rfl rfl 4 (by decide) w4 (fun _ h9 => h9) rfl dX5_howManyBy_33 ?_
        refine lv_iload_n hx hb dX5_howManyBy_36 rfl (lv_at hl 1 rfl) ?_
        obtain ⟨q_3, hq_3, hM⟩ := on_bind hM
        refine on_callVN (rest := []) (As := [.int v1]) (st1 := [.int q_3]) (C := RX0) (ci := 0) (q0 := 3) (wc := [(h_t_second, .inr (0, [.int q_2.1, .ref h_t_second_rows])), (h_t_second_rows, .inl (cI, 7, .inl q_2.2))]) (wr := [(h_t, .inr (5, [.ref h_t_now, .ref h_t_images, .ref h_t_pad, .ref h_t_net, .ref h_t_second, .ref h_t_renumbering, .ref h_t_table, .ref h_t_marks])), (h_t_net, .inr (0, [.int t_net_many, .ref h_t_net_rows])), (h_t_net_rows, .inl (cI, 7, .inl t_net_rows))]) (wc' := [(h_t_second, .inr (0, [.int q_2.1, .ref h_t_second_rows])), (h_t_second_rows, .inl (cI, 7, .inl q_2.2))]) (wf := [(h_t, .inr (5, [.ref h_t_now, .ref h_t_images, .ref h_t_pad, .ref h_t_net, .ref h_t_second, .ref h_t_renumbering, .ref h_t_table, .ref h_t_marks])), (h_t_net, .inr (0, [.int t_net_many, .ref h_t_net_rows])), (h_t_net_rows, .inl (cI, 7, .inl t_net_rows)), (h_t_second, .inr (0, [.int q_2.1, .ref h_t_second_rows])), (h_t_second_rows, .inl (cI, 7, .inl q_2.2))]) (rt := (some (.int q_3))) ⟨hx, hb, hml, hown, hts⟩ (k_X0_eachDegreeIs h_t_second h_t_second_rows q_2.1 q_2.2 v1 q_3 hq_3) ⟨va_cnB 1 hts gX5_howManyBy_X0_eachDegreeIs_n224 rfl rfl rfl (hN _ (List.mem_of_getElem? (i := 38) rfl)) w5 hdX0_eachDegreeIs ⟨(Nat.le_of_ble_eq_true rfl), (Nat.le_of_ble_eq_true rfl)⟩, w8, w9⟩ hK hN hP hD hS hA [3, 4] [0, 1, 2] [0, 1, 2, 3, 4] rfl rfl rfl rfl (by decide) rfl rfl rfl rfl rfl rfl hl.1 rfl (Nat.le_of_ble_eq_true rfl) rfl dX5_howManyBy_37 ⟨Nat.zero_le _, Nat.zero_le _⟩ (fun H locs hP hD hS => ?_)
        refine lv_if_eq (tgt := 60) hx hb dX5_howManyBy_40 (by decide) (fun c_4 => ?_) (fun c_4 => ?_)
        · have hM := on_pos c_4 hM
          obtain ⟨v4_5, ev4_5⟩ : ∃ z : Int32, z = v4 + 2 := ⟨_, rfl⟩
          have hM := on_letE ev4_5 hM
          refine lv_iinc (v := v4_5) (lv' := [(4, .int v4_5), (0, .ref h_t), (1, .int v1), (2, .int v2), (3, .int v3)]) hx hb dX5_howManyBy_60 hl (k := 4) rfl (by rw [ev4_5]; rfl) (by decide) rfl (fun ls hl => ?_)
          refine lv_goto (tgt := 5) hx hb dX5_howManyBy_63 (by decide) ?_
          have hk := on_nxL hM hk
          exact ih v3 v4_5 q_2.1 q_2.2 _ hk K1 _ _ hP hD hS ls (lv_sub hl [1, 2, 3, 4, 0] rfl)
        · have hM := on_neg c_4 hM
          refine lv_iload_n hx hb dX5_howManyBy_43 rfl (lv_at hl 2 rfl) ?_
          refine lv_if_eq (tgt := 57) hx hb dX5_howManyBy_44 (by decide) (fun c_6 => ?_) (fun c_6 => ?_)
          · have hM := on_pos c_6 hM
            obtain ⟨v3_7, ev3_7⟩ : ∃ z : Int32, z = v3 + 1 := ⟨_, rfl⟩
            have hM := on_letE ev3_7 hM
            refine lv_iinc (v := v3_7) (lv' := [(3, .int v3_7), (0, .ref h_t), (1, .int v1), (2, .int v2), (4, .int v4)]) hx hb dX5_howManyBy_57 hl (k := 3) rfl (by rw [ev3_7]; rfl) (by decide) rfl (fun ls hl => ?_)
            obtain ⟨v4_8, ev4_8⟩ : ∃ z : Int32, z = v4 + 2 := ⟨_, rfl⟩
            have hM := on_letE ev4_8 hM
            refine lv_iinc (v := v4_8) (lv' := [(4, .int v4_8), (3, .int v3_7), (0, .ref h_t), (1, .int v1), (2, .int v2)]) hx hb dX5_howManyBy_60 hl (k := 4) rfl (by rw [ev4_8]; rfl) (by decide) rfl (fun ls hl => ?_)
            refine lv_goto (tgt := 5) hx hb dX5_howManyBy_63 (by decide) ?_
            have hk := on_nxL hM hk
            exact ih v3_7 v4_8 q_2.1 q_2.2 _ hk K1 _ _ hP hD hS ls (lv_sub hl [2, 3, 4, 1, 0] rfl)
          · have hM := on_neg c_6 hM
            refine lv_aload_n hx hb dX5_howManyBy_47 rfl (lv_at hl 0 rfl) ?_
            refine va_get (D := D) (ci := 5) (v := .ref h_t_second) (C := RX5) (T := TX5) (N := 8) hx hb hts w2 hown hK hP 0 rfl rfl 4 (by decide) w4 (fun _ h9 => h9) rfl dX5_howManyBy_48 ?_
            obtain ⟨q_9, hq_9, hM⟩ := on_bind hM
            refine on_callVN (rest := []) (As := []) (st1 := [.int q_9]) (C := RX0) (ci := 0) (q0 := 3) (wc := [(h_t_second, .inr (0, [.int q_2.1, .ref h_t_second_rows])), (h_t_second_rows, .inl (cI, 7, .inl q_2.2))]) (wr := [(h_t, .inr (5, [.ref h_t_now, .ref h_t_images, .ref h_t_pad, .ref h_t_net, .ref h_t_second, .ref h_t_renumbering, .ref h_t_table, .ref h_t_marks])), (h_t_net, .inr (0, [.int t_net_many, .ref h_t_net_rows])), (h_t_net_rows, .inl (cI, 7, .inl t_net_rows))]) (wc' := [(h_t_second, .inr (0, [.int q_2.1, .ref h_t_second_rows])), (h_t_second_rows, .inl (cI, 7, .inl q_2.2))]) (wf := [(h_t, .inr (5, [.ref h_t_now, .ref h_t_images, .ref h_t_pad, .ref h_t_net, .ref h_t_second, .ref h_t_renumbering, .ref h_t_table, .ref h_t_marks])), (h_t_net, .inr (0, [.int t_net_many, .ref h_t_net_rows])), (h_t_net_rows, .inl (cI, 7, .inl t_net_rows)), (h_t_second, .inr (0, [.int q_2.1, .ref h_t_second_rows])), (h_t_second_rows, .inl (cI, 7, .inl q_2.2))]) (rt := (some (.int q_9))) ⟨hx, hb, hml, hown, hts⟩ (k_X0_isStrong h_t_second h_t_second_rows q_2.1 q_2.2 q_9 hq_9) ⟨va_cnB 0 hts gX5_howManyBy_X0_isStrong_n227 rfl rfl rfl (hN _ (List.mem_of_getElem? (i := 39) rfl)) w5 hdX0_isStrong ⟨(Nat.le_of_ble_eq_true rfl), (Nat.le_of_ble_eq_true rfl)⟩, w10, w11⟩ hK hN hP hD hS hA [3, 4] [0, 1, 2] [0, 1, 2, 3, 4] rfl rfl rfl rfl (by decide) rfl rfl rfl rfl rfl rfl hl.1 rfl (Nat.le_of_ble_eq_true rfl) rfl dX5_howManyBy_51 ⟨Nat.zero_le _, Nat.zero_le _⟩ (fun H locs hP hD hS => ?_)
            refine lv_if_eq (tgt := 60) hx hb dX5_howManyBy_54 (by decide) (fun c_10 => ?_) (fun c_10 => ?_)
            · have hM := on_pos c_10 hM
              obtain ⟨v4_11, ev4_11⟩ : ∃ z : Int32, z = v4 + 2 := ⟨_, rfl⟩
              have hM := on_letE ev4_11 hM
              refine lv_iinc (v := v4_11) (lv' := [(4, .int v4_11), (0, .ref h_t), (1, .int v1), (2, .int v2), (3, .int v3)]) hx hb dX5_howManyBy_60 hl (k := 4) rfl (by rw [ev4_11]; rfl) (by decide) rfl (fun ls hl => ?_)
              refine lv_goto (tgt := 5) hx hb dX5_howManyBy_63 (by decide) ?_
              have hk := on_nxL hM hk
              exact ih v3 v4_11 q_2.1 q_2.2 _ hk K1 _ _ hP hD hS ls (lv_sub hl [1, 2, 3, 4, 0] rfl)
            · have hM := on_neg c_10 hM
              obtain ⟨v3_12, ev3_12⟩ : ∃ z : Int32, z = v3 + 1 := ⟨_, rfl⟩
              have hM := on_letE ev3_12 hM
              refine lv_iinc (v := v3_12) (lv' := [(3, .int v3_12), (0, .ref h_t), (1, .int v1), (2, .int v2), (4, .int v4)]) hx hb dX5_howManyBy_57 hl (k := 3) rfl (by rw [ev3_12]; rfl) (by decide) rfl (fun ls hl => ?_)
              obtain ⟨v4_13, ev4_13⟩ : ∃ z : Int32, z = v4 + 2 := ⟨_, rfl⟩
              have hM := on_letE ev4_13 hM
              refine lv_iinc (v := v4_13) (lv' := [(4, .int v4_13), (3, .int v3_12), (0, .ref h_t), (1, .int v1), (2, .int v2)]) hx hb dX5_howManyBy_60 hl (k := 4) rfl (by rw [ev4_13]; rfl) (by decide) rfl (fun ls hl => ?_)
              refine lv_goto (tgt := 5) hx hb dX5_howManyBy_63 (by decide) ?_
              have hk := on_nxL hM hk
              exact ih v3_12 v4_13 q_2.1 q_2.2 _ hk K1 _ _ hP hD hS ls (lv_sub hl [2, 3, 4, 1, 0] rfl)
  refine lv_iconst (v := 0) hx hb dX5_howManyBy_0 (by decide) ?_
  refine lv_istore_n (lv' := [(3, .int (0 : Int32)), (0, .ref h_t), (1, .int v1), (2, .int v2)]) hx hb dX5_howManyBy_1 rfl hl (by decide) rfl (fun ls hl => ?_)
  refine lv_iconst (v := 0) hx hb dX5_howManyBy_2 (by decide) ?_
  refine lv_istore (lv' := [(4, .int (0 : Int32)), (3, .int (0 : Int32)), (0, .ref h_t), (1, .int v1), (2, .int v2)]) hx hb dX5_howManyBy_3 hl (by decide) rfl (fun ls hl => ?_)
  obtain ⟨q_14, hq_14, hM⟩ := on_bind hM
  refine lp_5 v1 v2 on_F (0 : Int32) (0 : Int32) t_second_many t_second_rows q_14 hq_14 (fun H locs hP hD hS ls hl => ?_) H locs hP hD hS ls (lv_sub hl [2, 3, 4, 1, 0] rfl)
  refine lv_iload_n hx hb dX5_howManyBy_66 rfl (lv_at hl 0 rfl) ?_
  have hM := Option.some.inj hM
  subst hM
  rw [← hQ]
  exact on_iret hx hb hr hlk hP hD hS dX5_howManyBy_67
