abbrev rm_X6_oddNodes : Room := { frames := 5, cells := 0, slots := 0, locals := 114 }
set_option maxHeartbeats 4000000 in
set_option maxRecDepth 100000 in
theorem k_X6_oddNodes {l : Launch} {D : va_G} {cI cJ cZ cS cA : ClassId} (h_t : Nat) (h_t_state : Nat) (h_t_images : Nat) (h_t_isKept : Nat) (h_t_pad : Nat) (h_t_row : Nat) (h_t_isUsed : Nat) (h_t_table : Nat) (t_said : Int32) (t_leastSize : Int32) (t_leastSet : Int32) (t_found : Int32) (t_rank : Int32) (t_determinant : Int64) (t_state : Nat → Int32) (v1 : Int32) (out : Int32) (hM : M_X6_oddNodes v1 t_state = some out) : on_Con l yX6_oddNodes wsX6_oddNodes rm_X6_oddNodes [.ref h_t, .int v1] D (on_T cI cJ cZ cS cA) [(h_t, .inr (6, [.ref h_t_state, .ref h_t_images, .ref h_t_isKept, .ref h_t_pad, .int t_said, .int t_leastSize, .int t_leastSet, .int t_found, .ref h_t_row, .ref h_t_isUsed, .ref h_t_table, .int t_rank, .long t_determinant])), (h_t_state, .inl (cI, 4, .inl t_state))] (some (.int out)) [(h_t, .inr (6, [.ref h_t_state, .ref h_t_images, .ref h_t_isKept, .ref h_t_pad, .int t_said, .int t_leastSize, .int t_leastSet, .int t_found, .ref h_t_row, .ref h_t_isUsed, .ref h_t_table, .int t_rank, .long t_determinant])), (h_t_state, .inl (cI, 4, .inl t_state))] := by
  unfold M_X6_oddNodes at hM
  refine on_enter (cc := cX6_oddNodes) (nL := 4) (rt := (some .int)) (own := RX6) (by decide +kernel) rfl rfl (Nat.le_of_ble_eq_true rfl) ?_
  intro p e s m below meth c A ls hx hb hml hr hlk hts hown hA hK hN H locs hP hD hS hl
  have hl : lv_has ls 4 [(0, .ref h_t), (1, .int v1)] := hl
  generalize hQ : MQ below (on_Q D (some (.int out)) [(h_t, .inr (6, [.ref h_t_state, .ref h_t_images, .ref h_t_isKept, .ref h_t_pad, .int t_said, .int t_leastSize, .int t_leastSet, .int t_found, .ref h_t_row, .ref h_t_isUsed, .ref h_t_table, .int t_rank, .long t_determinant])), (h_t_state, .inl (cI, 4, .inl t_state))] A) _ s 0 0 A = Q
  generalize hAr : List.toArray ([.ref h_t, .int v1] : List Value) = args at hts hQ ⊢
  have lp_4 : ∀ (v1 : Int32), ∀ (n : Nat) (v2 : Int32) (v3 : Int32) (x : Int32), on_loop (fun (s : Int32 × Int32) => B_X6_oddNodes_4 v1 t_state s.1 s.2) n (v2, v3) = some x → (∀ (H : Heap) (locs : List Loc), va_P D vwCl [(h_t, .inr (6, [.ref h_t_state, .ref h_t_images, .ref h_t_isKept, .ref h_t_pad, .int t_said, .int t_leastSize, .int t_leastSet, .int t_found, .ref h_t_row, .ref h_t_isUsed, .ref h_t_table, .int t_rank, .long t_determinant])), (h_t_state, .inl (cI, 4, .inl t_state))] H → va_D A [(h_t, .inr (6, [.ref h_t_state, .ref h_t_images, .ref h_t_isKept, .ref h_t_pad, .int t_said, .int t_leastSize, .int t_leastSet, .int t_found, .ref h_t_row, .ref h_t_isUsed, .ref h_t_table, .int t_rank, .long t_determinant])), (h_t_state, .inl (cI, 4, .inl t_state))] → va_S A s.heap H locs → ∀ ls : Array Slot, lv_has ls 4 [(2, .int x)] → W p l e rm_X6_oddNodes s m args below meth c H locs 0 0 Q (F0 m 34 ls [])) → ∀ (H : Heap) (locs : List Loc), va_P D vwCl [(h_t, .inr (6, [.ref h_t_state, .ref h_t_images, .ref h_t_isKept, .ref h_t_pad, .int t_said, .int t_leastSize, .int t_leastSet, .int t_found, .ref h_t_row, .ref h_t_isUsed, .ref h_t_table, .int t_rank, .long t_determinant])), (h_t_state, .inl (cI, 4, .inl t_state))] H → va_D A [(h_t, .inr (6, [.ref h_t_state, .ref h_t_images, .ref h_t_isKept, .ref h_t_pad, .int t_said, .int t_leastSize, .int t_leastSet, .int t_found, .ref h_t_row, .ref h_t_isUsed, .ref h_t_table, .int t_rank, .long t_determinant])), (h_t_state, .inl (cI, 4, .inl t_state))] → va_S A s.heap H locs → ∀ ls : Array Slot, lv_has ls 4 [(0, .ref h_t), (1, .int v1), (2, .int v2), (3, .int v3)] → W p l e rm_X6_oddNodes s m args below meth c H locs 0 0 Q (F0 m 4 ls []) := by
    intro v1
    intro n
    induction n with
    | zero =>
      intro v2 v3 x hL
      exact (on_loop0 hL).elim
    | succ n ih =>
      intro v2 v3 x hL K1 H locs hP hD hS ls hl
      obtain ⟨y, hM, hk⟩ := on_loopE hL
      have hM : B_X6_oddNodes_4 v1 t_state v2 v3 = some y := hM
      unfold B_X6_oddNodes_4 at hM
      refine lv_iload_n hx hb dX6_oddNodes_4 rfl (lv_at hl 3 rfl) ?_
      refine lv_aload_n hx hb dX6_oddNodes_5 rfl (lv_at hl 0 rfl) ?_
      obtain ⟨q_1, hq_1, hM⟩ := on_bind hM
      refine on_callV (rest := [.int v3]) (As := []) (st1 := [.int q_1, .int v3]) (C := RX6) (ci := 6) (q0 := 0) (wc := [(h_t, .inr (6, [.ref h_t_state, .ref h_t_images, .ref h_t_isKept, .ref h_t_pad, .int t_said, .int t_leastSize, .int t_leastSet, .int t_found, .ref h_t_row, .ref h_t_isUsed, .ref h_t_table, .int t_rank, .long t_determinant])), (h_t_state, .inl (cI, 4, .inl t_state))]) (wr := []) (wc' := [(h_t, .inr (6, [.ref h_t_state, .ref h_t_images, .ref h_t_isKept, .ref h_t_pad, .int t_said, .int t_leastSize, .int t_leastSet, .int t_found, .ref h_t_row, .ref h_t_isUsed, .ref h_t_table, .int t_rank, .long t_determinant])), (h_t_state, .inl (cI, 4, .inl t_state))]) (wf := [(h_t, .inr (6, [.ref h_t_state, .ref h_t_images, .ref h_t_isKept, .ref h_t_pad, .int t_said, .int t_leastSize, .int t_leastSet, .int t_found, .ref h_t_row, .ref h_t_isUsed, .ref h_t_table, .int t_rank, .long t_determinant])), (h_t_state, .inl (cI, 4, .inl t_state))]) (rt := (some (.int q_1))) ⟨hx, hb, hml, hown, hts⟩ (k_X6_many h_t h_t_state h_t_images h_t_isKept h_t_pad h_t_row h_t_isUsed h_t_table t_said t_leastSize t_leastSet t_found t_rank t_determinant t_state q_1 hq_1) (cwV 0 hts gX6_oddNodes_X6_many rfl rfl rfl ⟨rfl, hdX6_many⟩ ⟨(Nat.le_of_ble_eq_true rfl), (Nat.le_of_ble_eq_true rfl)⟩) hK hN hP hD hS hA [0, 1] [] [0, 1] rfl rfl rfl rfl (by decide) rfl rfl rfl rfl rfl rfl hl.1 rfl (Nat.le_of_ble_eq_true rfl) rfl dX6_oddNodes_6 ⟨Nat.zero_le _, Nat.zero_le _⟩ (fun H locs hP hD hS => ?_)
      refine lv_icmp_ge (tgt := 34) hx hb dX6_oddNodes_9 (by decide) (fun c_2 => ?_) (fun c_2 => ?_)
      · have hM := on_pos c_2 hM
        have hk := on_nxR hM hk
        subst hk
        exact K1 _ _ hP hD hS ls (lv_sub hl [2] rfl)
      · have hM := on_neg c_2 hM
        refine lv_iload_n hx hb dX6_oddNodes_12 rfl (lv_at hl 2 rfl) ?_
        refine lv_aload_n hx hb dX6_oddNodes_13 rfl (lv_at hl 0 rfl) ?_
        obtain ⟨q_3, hq_3, hM⟩ := on_bind hM
        refine on_callV (rest := [.int v2]) (As := []) (st1 := [.int q_3, .int v2]) (C := RX6) (ci := 6) (q0 := 0) (wc := [(h_t, .inr (6, [.ref h_t_state, .ref h_t_images, .ref h_t_isKept, .ref h_t_pad, .int t_said, .int t_leastSize, .int t_leastSet, .int t_found, .ref h_t_row, .ref h_t_isUsed, .ref h_t_table, .int t_rank, .long t_determinant])), (h_t_state, .inl (cI, 4, .inl t_state))]) (wr := []) (wc' := [(h_t, .inr (6, [.ref h_t_state, .ref h_t_images, .ref h_t_isKept, .ref h_t_pad, .int t_said, .int t_leastSize, .int t_leastSet, .int t_found, .ref h_t_row, .ref h_t_isUsed, .ref h_t_table, .int t_rank, .long t_determinant])), (h_t_state, .inl (cI, 4, .inl t_state))]) (wf := [(h_t, .inr (6, [.ref h_t_state, .ref h_t_images, .ref h_t_isKept, .ref h_t_pad, .int t_said, .int t_leastSize, .int t_leastSet, .int t_found, .ref h_t_row, .ref h_t_isUsed, .ref h_t_table, .int t_rank, .long t_determinant])), (h_t_state, .inl (cI, 4, .inl t_state))]) (rt := (some (.int q_3))) ⟨hx, hb, hml, hown, hts⟩ (k_X6_many h_t h_t_state h_t_images h_t_isKept h_t_pad h_t_row h_t_isUsed h_t_table t_said t_leastSize t_leastSet t_found t_rank t_determinant t_state q_3 hq_3) (cwV 0 hts gX6_oddNodes_X6_many rfl rfl rfl ⟨rfl, hdX6_many⟩ ⟨(Nat.le_of_ble_eq_true rfl), (Nat.le_of_ble_eq_true rfl)⟩) hK hN hP hD hS hA [0, 1] [] [0, 1] rfl rfl rfl rfl (by decide) rfl rfl rfl rfl rfl rfl hl.1 rfl (Nat.le_of_ble_eq_true rfl) rfl dX6_oddNodes_14 ⟨Nat.zero_le _, Nat.zero_le _⟩ (fun H locs hP hD hS => ?_)
        refine lv_iload_n hx hb dX6_oddNodes_17 rfl (lv_at hl 1 rfl) ?_
        refine lv_iload_n hx hb dX6_oddNodes_18 rfl (lv_at hl 3 rfl) ?_
        obtain ⟨q_4, hq_4, hM⟩ := on_bind hM
        refine on_callS0 (rest := [.int v2]) (As := [.int q_3, .int v1, .int v3]) (st1 := [.int q_4, .int v2]) ⟨hx, hb, hml, hown, hts⟩ (k_X6_degree q_3 v1 v3 q_4 hq_4) (va_cwS 3 hts gX6_oddNodes_X6_degree rfl rfl rfl hdX6_degree ⟨(Nat.le_of_ble_eq_true rfl), (Nat.le_of_ble_eq_true rfl)⟩) hK hN hP hD hS hA rfl hl.1 rfl (Nat.le_of_ble_eq_true rfl) rfl dX6_oddNodes_19 ⟨Nat.zero_le _, Nat.zero_le _⟩ (fun H locs hP hS => ?_)
        refine lv_iconst (v := 2) hx hb dX6_oddNodes_22 (by decide) ?_
        refine lv_irem hx hb dX6_oddNodes_23 (by decide) ?_
        refine lv_iload_n hx hb dX6_oddNodes_24 rfl (lv_at hl 3 rfl) ?_
        refine lv_ishl hx hb dX6_oddNodes_25 ?_
        refine lv_ior hx hb dX6_oddNodes_26 ?_
        refine lv_topi (fun v2_5 ev2_5 => ?_)
        have hM := on_letE ev2_5 hM
        refine lv_istore_n (lv' := [(2, .int v2_5), (0, .ref h_t), (1, .int v1), (3, .int v3)]) hx hb dX6_oddNodes_27 rfl hl (by decide) rfl (fun ls hl => ?_)
        obtain ⟨v3_6, ev3_6⟩ : ∃ z : Int32, z = v3 + 1 := ⟨_, rfl⟩
        have hM := on_letE ev3_6 hM
        refine lv_iinc (v := v3_6) (lv' := [(3, .int v3_6), (2, .int v2_5), (0, .ref h_t), (1, .int v1)]) hx hb dX6_oddNodes_28 hl (k := 3) rfl (by rw [ev3_6]; rfl) (by decide) rfl (fun ls hl => ?_)
        refine lv_goto (tgt := 4) hx hb dX6_oddNodes_31 (by decide) ?_
        have hk := on_nxL hM hk
        exact ih v2_5 v3_6 _ hk K1 _ _ hP hD hS ls (lv_sub hl [2, 3, 1, 0] rfl)
  refine lv_iconst (v := 0) hx hb dX6_oddNodes_0 (by decide) ?_
  refine lv_istore_n (lv' := [(2, .int (0 : Int32)), (0, .ref h_t), (1, .int v1)]) hx hb dX6_oddNodes_1 rfl hl (by decide) rfl (fun ls hl => ?_)
  refine lv_iconst (v := 0) hx hb dX6_oddNodes_2 (by decide) ?_
  refine lv_istore_n (lv' := [(3, .int (0 : Int32)), (2, .int (0 : Int32)), (0, .ref h_t), (1, .int v1)]) hx hb dX6_oddNodes_3 rfl hl (by decide) rfl (fun ls hl => ?_)
  obtain ⟨q_7, hq_7, hM⟩ := on_bind hM
  refine lp_4 v1 on_F (0 : Int32) (0 : Int32) q_7 hq_7 (fun H locs hP hD hS ls hl => ?_) H locs hP hD hS ls (lv_sub hl [2, 3, 1, 0] rfl)
  refine lv_iload_n hx hb dX6_oddNodes_34 rfl (lv_at hl 0 rfl) ?_
  have hM := Option.some.inj hM
  subst hM
  rw [← hQ]
  exact on_iret hx hb hr hlk hP hD hS dX6_oddNodes_35
abbrev rm_X6_of : Room := { frames := 7, cells := 0, slots := 0, locals := 164 }
set_option maxHeartbeats 4000000 in
set_option maxRecDepth 100000 in
theorem k_X6_of {l : Launch} {D : va_G} {cI cJ cZ cS cA : ClassId} (h_t : Nat) (h_t_state : Nat) (h_t_images : Nat) (h_t_isKept : Nat) (h_t_pad : Nat) (h_t_row : Nat) (h_t_isUsed : Nat) (h_t_table : Nat) (t_said : Int32) (t_leastSize : Int32) (t_leastSet : Int32) (t_found : Int32) (t_rank : Int32) (t_determinant : Int64) (t_state : Nat → Int32) (v1 : Int32) (v2 : Int32) (out : Int32) (hM : M_X6_of v1 v2 t_state = some out) : on_Con l yX6_of wsX6_of rm_X6_of [.ref h_t, .int v1, .int v2] D (on_T cI cJ cZ cS cA) [(h_t, .inr (6, [.ref h_t_state, .ref h_t_images, .ref h_t_isKept, .ref h_t_pad, .int t_said, .int t_leastSize, .int t_leastSet, .int t_found, .ref h_t_row, .ref h_t_isUsed, .ref h_t_table, .int t_rank, .long t_determinant])), (h_t_state, .inl (cI, 4, .inl t_state))] (some (.int out)) [(h_t, .inr (6, [.ref h_t_state, .ref h_t_images, .ref h_t_isKept, .ref h_t_pad, .int t_said, .int t_leastSize, .int t_leastSet, .int t_found, .ref h_t_row, .ref h_t_isUsed, .ref h_t_table, .int t_rank, .long t_determinant])), (h_t_state, .inl (cI, 4, .inl t_state))] := by
  unfold M_X6_of at hM
  refine on_enter (cc := cX6_of) (nL := 4) (rt := (some .int)) (own := RX6) (by decide +kernel) rfl rfl (Nat.le_of_ble_eq_true rfl) ?_
  intro p e s m below meth c A ls hx hb hml hr hlk hts hown hA hK hN H locs hP hD hS hl
  have hl : lv_has ls 4 [(0, .ref h_t), (1, .int v1), (2, .int v2)] := hl
  generalize hQ : MQ below (on_Q D (some (.int out)) [(h_t, .inr (6, [.ref h_t_state, .ref h_t_images, .ref h_t_isKept, .ref h_t_pad, .int t_said, .int t_leastSize, .int t_leastSet, .int t_found, .ref h_t_row, .ref h_t_isUsed, .ref h_t_table, .int t_rank, .long t_determinant])), (h_t_state, .inl (cI, 4, .inl t_state))] A) _ s 0 0 A = Q
  generalize hAr : List.toArray ([.ref h_t, .int v1, .int v2] : List Value) = args at hts hQ ⊢
  refine lv_iload_n hx hb dX6_of_0 rfl (lv_at hl 1 rfl) ?_
  obtain ⟨q_1, hq_1, hM⟩ := on_bind hM
  refine on_callS0 (rest := []) (As := [.int v1]) (st1 := [.int q_1]) ⟨hx, hb, hml, hown, hts⟩ (k_X6_isSlot v1 q_1 hq_1) (va_cwS 1 hts gX6_of_X6_isSlot rfl rfl rfl hdX6_isSlot ⟨(Nat.le_of_ble_eq_true rfl), (Nat.le_of_ble_eq_true rfl)⟩) hK hN hP hD hS hA rfl hl.1 rfl (Nat.le_of_ble_eq_true rfl) rfl dX6_of_1 ⟨Nat.zero_le _, Nat.zero_le _⟩ (fun H locs hP hS => ?_)
  refine lv_if_ne (tgt := 9) hx hb dX6_of_4 (by decide) (fun c_2 => ?_) (fun c_2 => ?_)
  · have hM := on_neg c_2 hM
    refine lv_aload_n hx hb dX6_of_9 rfl (lv_at hl 0 rfl) ?_
    refine lv_iload_n hx hb dX6_of_10 rfl (lv_at hl 1 rfl) ?_
    obtain ⟨q_3, hq_3, hM⟩ := on_bind hM
    refine on_callV (rest := []) (As := [.int v1]) (st1 := [.int q_3]) (C := RX6) (ci := 6) (q0 := 0) (wc := [(h_t, .inr (6, [.ref h_t_state, .ref h_t_images, .ref h_t_isKept, .ref h_t_pad, .int t_said, .int t_leastSize, .int t_leastSet, .int t_found, .ref h_t_row, .ref h_t_isUsed, .ref h_t_table, .int t_rank, .long t_determinant])), (h_t_state, .inl (cI, 4, .inl t_state))]) (wr := []) (wc' := [(h_t, .inr (6, [.ref h_t_state, .ref h_t_images, .ref h_t_isKept, .ref h_t_pad, .int t_said, .int t_leastSize, .int t_leastSet, .int t_found, .ref h_t_row, .ref h_t_isUsed, .ref h_t_table, .int t_rank, .long t_determinant])), (h_t_state, .inl (cI, 4, .inl t_state))]) (wf := [(h_t, .inr (6, [.ref h_t_state, .ref h_t_images, .ref h_t_isKept, .ref h_t_pad, .int t_said, .int t_leastSize, .int t_leastSet, .int t_found, .ref h_t_row, .ref h_t_isUsed, .ref h_t_table, .int t_rank, .long t_determinant])), (h_t_state, .inl (cI, 4, .inl t_state))]) (rt := (some (.int q_3))) ⟨hx, hb, hml, hown, hts⟩ (k_X6_netOf h_t h_t_state h_t_images h_t_isKept h_t_pad h_t_row h_t_isUsed h_t_table t_said t_leastSize t_leastSet t_found t_rank t_determinant t_state v1 q_3 hq_3) (cwV 1 hts gX6_of_X6_netOf rfl rfl rfl ⟨rfl, hdX6_netOf⟩ ⟨(Nat.le_of_ble_eq_true rfl), (Nat.le_of_ble_eq_true rfl)⟩) hK hN hP hD hS hA [0, 1] [] [0, 1] rfl rfl rfl rfl (by decide) rfl rfl rfl rfl rfl rfl hl.1 rfl (Nat.le_of_ble_eq_true rfl) rfl dX6_of_11 ⟨Nat.zero_le _, Nat.zero_le _⟩ (fun H locs hP hD hS => ?_)
    refine lv_istore_n (lv' := [(3, .int q_3), (0, .ref h_t), (1, .int v1), (2, .int v2)]) hx hb dX6_of_14 rfl hl (by decide) rfl (fun ls hl => ?_)
    refine lv_iload_n hx hb dX6_of_15 rfl (lv_at hl 3 rfl) ?_
    by_cases c_9 : v2 = 0
    · have hM := on_pos c_9 hM
      refine lv_tableIn (tgt := 52) hx hb dX6_of_16 (by rw [c_9]; decide) (by rw [c_9]; decide) (by rw [c_9]; rfl) (by decide) ?_
      refine lv_iload_n hx hb dX6_of_52 rfl (lv_at hl 0 rfl) ?_
      have hM := Option.some.inj hM
      subst hM
      rw [← hQ]
      exact on_iret hx hb hr hlk hP hD hS dX6_of_53
    · have hM := on_neg c_9 hM
      by_cases c_10 : v2 = 1
      · have hM := on_pos c_10 hM
        refine lv_tableIn (tgt := 54) hx hb dX6_of_16 (by rw [c_10]; decide) (by rw [c_10]; decide) (by rw [c_10]; rfl) (by decide) ?_
        refine lv_iload_n hx hb dX6_of_54 rfl (lv_at hl 0 rfl) ?_
        obtain ⟨q_4, hq_4, hM⟩ := on_bind hM
        refine on_callS0 (rest := []) (As := [.int q_3]) (st1 := [.int q_4]) ⟨hx, hb, hml, hown, hts⟩ (k_X6_size q_3 q_4 hq_4) (va_cwS 1 hts gX6_of_X6_size rfl rfl rfl hdX6_size ⟨(Nat.le_of_ble_eq_true rfl), (Nat.le_of_ble_eq_true rfl)⟩) hK hN hP hD hS hA rfl hl.1 rfl (Nat.le_of_ble_eq_true rfl) rfl dX6_of_55 ⟨Nat.zero_le _, Nat.zero_le _⟩ (fun H locs hP hS => ?_)
        have hM := Option.some.inj hM
        subst hM
        rw [← hQ]
        exact on_iret hx hb hr hlk hP hD hS dX6_of_58
      · have hM := on_neg c_10 hM
        by_cases c_11 : v2 = 2
        · have hM := on_pos c_11 hM
          refine lv_tableIn (tgt := 59) hx hb dX6_of_16 (by rw [c_11]; decide) (by rw [c_11]; decide) (by rw [c_11]; rfl) (by decide) ?_
          refine lv_aload_n hx hb dX6_of_59 rfl (lv_at hl 1 rfl) ?_
          obtain ⟨q_5, hq_5, hM⟩ := on_bind hM
          refine on_callV (rest := []) (As := []) (st1 := [.int q_5]) (C := RX6) (ci := 6) (q0 := 0) (wc := [(h_t, .inr (6, [.ref h_t_state, .ref h_t_images, .ref h_t_isKept, .ref h_t_pad, .int t_said, .int t_leastSize, .int t_leastSet, .int t_found, .ref h_t_row, .ref h_t_isUsed, .ref h_t_table, .int t_rank, .long t_determinant])), (h_t_state, .inl (cI, 4, .inl t_state))]) (wr := []) (wc' := [(h_t, .inr (6, [.ref h_t_state, .ref h_t_images, .ref h_t_isKept, .ref h_t_pad, .int t_said, .int t_leastSize, .int t_leastSet, .int t_found, .ref h_t_row, .ref h_t_isUsed, .ref h_t_table, .int t_rank, .long t_determinant])), (h_t_state, .inl (cI, 4, .inl t_state))]) (wf := [(h_t, .inr (6, [.ref h_t_state, .ref h_t_images, .ref h_t_isKept, .ref h_t_pad, .int t_said, .int t_leastSize, .int t_leastSet, .int t_found, .ref h_t_row, .ref h_t_isUsed, .ref h_t_table, .int t_rank, .long t_determinant])), (h_t_state, .inl (cI, 4, .inl t_state))]) (rt := (some (.int q_5))) ⟨hx, hb, hml, hown, hts⟩ (k_X6_many h_t h_t_state h_t_images h_t_isKept h_t_pad h_t_row h_t_isUsed h_t_table t_said t_leastSize t_leastSet t_found t_rank t_determinant t_state q_5 hq_5) (cwV 0 hts gX6_of_X6_many rfl rfl rfl ⟨rfl, hdX6_many⟩ ⟨(Nat.le_of_ble_eq_true rfl), (Nat.le_of_ble_eq_true rfl)⟩) hK hN hP hD hS hA [0, 1] [] [0, 1] rfl rfl rfl rfl (by decide) rfl rfl rfl rfl rfl rfl hl.1 rfl (Nat.le_of_ble_eq_true rfl) rfl dX6_of_60 ⟨Nat.zero_le _, Nat.zero_le _⟩ (fun H locs hP hD hS => ?_)
          refine lv_iload_n hx hb dX6_of_63 rfl (lv_at hl 0 rfl) ?_
          obtain ⟨q_6, hq_6, hM⟩ := on_bind hM
          refine on_callS0 (rest := []) (As := [.int q_5, .int q_3]) (st1 := [.int q_6]) ⟨hx, hb, hml, hown, hts⟩ (k_X6_oddOfNet q_5 q_3 q_6 hq_6) (va_cwS 2 hts gX6_of_X6_oddOfNet rfl rfl rfl hdX6_oddOfNet ⟨(Nat.le_of_ble_eq_true rfl), (Nat.le_of_ble_eq_true rfl)⟩) hK hN hP hD hS hA rfl hl.1 rfl (Nat.le_of_ble_eq_true rfl) rfl dX6_of_64 ⟨Nat.zero_le _, Nat.zero_le _⟩ (fun H locs hP hS => ?_)
          have hM := Option.some.inj hM
          subst hM
          rw [← hQ]
          exact on_iret hx hb hr hlk hP hD hS dX6_of_67
        · have hM := on_neg c_11 hM
          by_cases c_12 : v2 = 3
          · have hM := on_pos c_12 hM
            refine lv_tableIn (tgt := 68) hx hb dX6_of_16 (by rw [c_12]; decide) (by rw [c_12]; decide) (by rw [c_12]; rfl) (by decide) ?_
            refine lv_aload_n hx hb dX6_of_68 rfl (lv_at hl 1 rfl) ?_
            refine lv_iload_n hx hb dX6_of_69 rfl (lv_at hl 0 rfl) ?_
            obtain ⟨q_7, hq_7, hM⟩ := on_bind hM
            refine on_callV (rest := []) (As := [.int q_3]) (st1 := [.int q_7]) (C := RX6) (ci := 6) (q0 := 0) (wc := [(h_t, .inr (6, [.ref h_t_state, .ref h_t_images, .ref h_t_isKept, .ref h_t_pad, .int t_said, .int t_leastSize, .int t_leastSet, .int t_found, .ref h_t_row, .ref h_t_isUsed, .ref h_t_table, .int t_rank, .long t_determinant])), (h_t_state, .inl (cI, 4, .inl t_state))]) (wr := []) (wc' := [(h_t, .inr (6, [.ref h_t_state, .ref h_t_images, .ref h_t_isKept, .ref h_t_pad, .int t_said, .int t_leastSize, .int t_leastSet, .int t_found, .ref h_t_row, .ref h_t_isUsed, .ref h_t_table, .int t_rank, .long t_determinant])), (h_t_state, .inl (cI, 4, .inl t_state))]) (wf := [(h_t, .inr (6, [.ref h_t_state, .ref h_t_images, .ref h_t_isKept, .ref h_t_pad, .int t_said, .int t_leastSize, .int t_leastSet, .int t_found, .ref h_t_row, .ref h_t_isUsed, .ref h_t_table, .int t_rank, .long t_determinant])), (h_t_state, .inl (cI, 4, .inl t_state))]) (rt := (some (.int q_7))) ⟨hx, hb, hml, hown, hts⟩ (k_X6_regular h_t h_t_state h_t_images h_t_isKept h_t_pad h_t_row h_t_isUsed h_t_table t_said t_leastSize t_leastSet t_found t_rank t_determinant t_state q_3 q_7 hq_7) (cwV 1 hts gX6_of_X6_regular rfl rfl rfl ⟨rfl, hdX6_regular⟩ ⟨(Nat.le_of_ble_eq_true rfl), (Nat.le_of_ble_eq_true rfl)⟩) hK hN hP hD hS hA [0, 1] [] [0, 1] rfl rfl rfl rfl (by decide) rfl rfl rfl rfl rfl rfl hl.1 rfl (Nat.le_of_ble_eq_true rfl) rfl dX6_of_70 ⟨Nat.zero_le _, Nat.zero_le _⟩ (fun H locs hP hD hS => ?_)
            have hM := Option.some.inj hM
            subst hM
            rw [← hQ]
            exact on_iret hx hb hr hlk hP hD hS dX6_of_73
          · have hM := on_neg c_12 hM
            by_cases c_13 : v2 = 4
            · have hM := on_pos c_13 hM
              refine lv_tableIn (tgt := 74) hx hb dX6_of_16 (by rw [c_13]; decide) (by rw [c_13]; decide) (by rw [c_13]; rfl) (by decide) ?_
              refine lv_aload_n hx hb dX6_of_74 rfl (lv_at hl 1 rfl) ?_
              refine lv_iload_n hx hb dX6_of_75 rfl (lv_at hl 0 rfl) ?_
              obtain ⟨q_8, hq_8, hM⟩ := on_bind hM
              refine on_callV (rest := []) (As := [.int q_3]) (st1 := [.int q_8]) (C := RX6) (ci := 6) (q0 := 0) (wc := [(h_t, .inr (6, [.ref h_t_state, .ref h_t_images, .ref h_t_isKept, .ref h_t_pad, .int t_said, .int t_leastSize, .int t_leastSet, .int t_found, .ref h_t_row, .ref h_t_isUsed, .ref h_t_table, .int t_rank, .long t_determinant])), (h_t_state, .inl (cI, 4, .inl t_state))]) (wr := []) (wc' := [(h_t, .inr (6, [.ref h_t_state, .ref h_t_images, .ref h_t_isKept, .ref h_t_pad, .int t_said, .int t_leastSize, .int t_leastSet, .int t_found, .ref h_t_row, .ref h_t_isUsed, .ref h_t_table, .int t_rank, .long t_determinant])), (h_t_state, .inl (cI, 4, .inl t_state))]) (wf := [(h_t, .inr (6, [.ref h_t_state, .ref h_t_images, .ref h_t_isKept, .ref h_t_pad, .int t_said, .int t_leastSize, .int t_leastSet, .int t_found, .ref h_t_row, .ref h_t_isUsed, .ref h_t_table, .int t_rank, .long t_determinant])), (h_t_state, .inl (cI, 4, .inl t_state))]) (rt := (some (.int q_8))) ⟨hx, hb, hml, hown, hts⟩ (k_X6_oddNodes h_t h_t_state h_t_images h_t_isKept h_t_pad h_t_row h_t_isUsed h_t_table t_said t_leastSize t_leastSet t_found t_rank t_determinant t_state q_3 q_8 hq_8) (cwV 1 hts gX6_of_X6_oddNodes rfl rfl rfl ⟨rfl, hdX6_oddNodes⟩ ⟨(Nat.le_of_ble_eq_true rfl), (Nat.le_of_ble_eq_true rfl)⟩) hK hN hP hD hS hA [0, 1] [] [0, 1] rfl rfl rfl rfl (by decide) rfl rfl rfl rfl rfl rfl hl.1 rfl (Nat.le_of_ble_eq_true rfl) rfl dX6_of_76 ⟨Nat.zero_le _, Nat.zero_le _⟩ (fun H locs hP hD hS => ?_)
              have hM := Option.some.inj hM
              subst hM
              rw [← hQ]
              exact on_iret hx hb hr hlk hP hD hS dX6_of_79
            · have hM := on_neg c_13 hM
              refine lv_tableOut (tgt := 80) hx hb dX6_of_16 (on_swOut (n := 5) (fun k hk => by rcases (show k = 0 ∨ k = 1 ∨ k = 2 ∨ k = 3 ∨ k = 4 by omega) with rfl | rfl | rfl | rfl | rfl <;> first | exact c_9 | exact c_10 | exact c_11 | exact c_12 | exact c_13) (by decide)) (by decide) ?_
              refine lv_bipush (v := -2) hx hb dX6_of_80 (by decide) ?_
              have hM := Option.some.inj hM
              subst hM
              rw [← hQ]
              exact on_iret hx hb hr hlk hP hD hS dX6_of_82
  · have hM := on_pos c_2 hM
    refine lv_iconst (v := -1) hx hb dX6_of_7 (by decide) ?_
    have hM := Option.some.inj hM
    subst hM
    rw [← hQ]
    exact on_iret hx hb hr hlk hP hD hS dX6_of_8
abbrev rm_X6_node : Room := { frames := 6, cells := 0, slots := 0, locals := 141 }
set_option maxHeartbeats 4000000 in
set_option maxRecDepth 100000 in
theorem k_X6_node {l : Launch} {D : va_G} {cI cJ cZ cS cA : ClassId} (h_t : Nat) (h_t_state : Nat) (h_t_images : Nat) (h_t_isKept : Nat) (h_t_pad : Nat) (h_t_row : Nat) (h_t_isUsed : Nat) (h_t_table : Nat) (t_said : Int32) (t_leastSize : Int32) (t_leastSet : Int32) (t_found : Int32) (t_rank : Int32) (t_determinant : Int64) (t_state : Nat → Int32) (v1 : Int32) (v2 : Int32) (v3 : Int32) (out : Int32) (hM : M_X6_node v1 v2 v3 t_state = some out) : on_Con l yX6_node wsX6_node rm_X6_node [.ref h_t, .int v1, .int v2, .int v3] D (on_T cI cJ cZ cS cA) [(h_t, .inr (6, [.ref h_t_state, .ref h_t_images, .ref h_t_isKept, .ref h_t_pad, .int t_said, .int t_leastSize, .int t_leastSet, .int t_found, .ref h_t_row, .ref h_t_isUsed, .ref h_t_table, .int t_rank, .long t_determinant])), (h_t_state, .inl (cI, 4, .inl t_state))] (some (.int out)) [(h_t, .inr (6, [.ref h_t_state, .ref h_t_images, .ref h_t_isKept, .ref h_t_pad, .int t_said, .int t_leastSize, .int t_leastSet, .int t_found, .ref h_t_row, .ref h_t_isUsed, .ref h_t_table, .int t_rank, .long t_determinant])), (h_t_state, .inl (cI, 4, .inl t_state))] := by
  unfold M_X6_node at hM
  refine on_enter (cc := cX6_node) (nL := 5) (rt := (some .int)) (own := RX6) (by decide +kernel) rfl rfl (Nat.le_of_ble_eq_true rfl) ?_
  intro p e s m below meth c A ls hx hb hml hr hlk hts hown hA hK hN H locs hP hD hS hl
  have hl : lv_has ls 5 [(0, .ref h_t), (1, .int v1), (2, .int v2), (3, .int v3)] := hl
  generalize hQ : MQ below (on_Q D (some (.int out)) [(h_t, .inr (6, [.ref h_t_state, .ref h_t_images, .ref h_t_isKept, .ref h_t_pad, .int t_said, .int t_leastSize, .int t_leastSet, .int t_found, .ref h_t_row, .ref h_t_isUsed, .ref h_t_table, .int t_rank, .long t_determinant])), (h_t_state, .inl (cI, 4, .inl t_state))] A) _ s 0 0 A = Q
  generalize hAr : List.toArray ([.ref h_t, .int v1, .int v2, .int v3] : List Value) = args at hts hQ ⊢
  refine lv_iload_n hx hb dX6_node_0 rfl (lv_at hl 1 rfl) ?_
  obtain ⟨q_1, hq_1, hM⟩ := on_bind hM
  refine on_callS0 (rest := []) (As := [.int v1]) (st1 := [.int q_1]) ⟨hx, hb, hml, hown, hts⟩ (k_X6_isSlot v1 q_1 hq_1) (va_cwS 1 hts gX6_node_X6_isSlot rfl rfl rfl hdX6_isSlot ⟨(Nat.le_of_ble_eq_true rfl), (Nat.le_of_ble_eq_true rfl)⟩) hK hN hP hD hS hA rfl hl.1 rfl (Nat.le_of_ble_eq_true rfl) rfl dX6_node_1 ⟨Nat.zero_le _, Nat.zero_le _⟩ (fun H locs hP hS => ?_)
  refine lv_if_eq (tgt := 15) hx hb dX6_node_4 (by decide) (fun c_2 => ?_) (fun c_2 => ?_)
  · have hM := on_pos c_2 hM
    refine lv_iconst (v := -1) hx hb dX6_node_15 (by decide) ?_
    have hM := Option.some.inj hM
    subst hM
    rw [← hQ]
    exact on_iret hx hb hr hlk hP hD hS dX6_node_16
  · have hM := on_neg c_2 hM
    refine lv_aload_n hx hb dX6_node_7 rfl (lv_at hl 0 rfl) ?_
    refine lv_iload_n hx hb dX6_node_8 rfl (lv_at hl 2 rfl) ?_
    obtain ⟨q_3, hq_3, hM⟩ := on_bind hM
    refine on_callV (rest := []) (As := [.int v2]) (st1 := [.int q_3]) (C := RX6) (ci := 6) (q0 := 0) (wc := [(h_t, .inr (6, [.ref h_t_state, .ref h_t_images, .ref h_t_isKept, .ref h_t_pad, .int t_said, .int t_leastSize, .int t_leastSet, .int t_found, .ref h_t_row, .ref h_t_isUsed, .ref h_t_table, .int t_rank, .long t_determinant])), (h_t_state, .inl (cI, 4, .inl t_state))]) (wr := []) (wc' := [(h_t, .inr (6, [.ref h_t_state, .ref h_t_images, .ref h_t_isKept, .ref h_t_pad, .int t_said, .int t_leastSize, .int t_leastSet, .int t_found, .ref h_t_row, .ref h_t_isUsed, .ref h_t_table, .int t_rank, .long t_determinant])), (h_t_state, .inl (cI, 4, .inl t_state))]) (wf := [(h_t, .inr (6, [.ref h_t_state, .ref h_t_images, .ref h_t_isKept, .ref h_t_pad, .int t_said, .int t_leastSize, .int t_leastSet, .int t_found, .ref h_t_row, .ref h_t_isUsed, .ref h_t_table, .int t_rank, .long t_determinant])), (h_t_state, .inl (cI, 4, .inl t_state))]) (rt := (some (.int q_3))) ⟨hx, hb, hml, hown, hts⟩ (k_X6_isNode h_t h_t_state h_t_images h_t_isKept h_t_pad h_t_row h_t_isUsed h_t_table t_said t_leastSize t_leastSet t_found t_rank t_determinant t_state v2 q_3 hq_3) (cwV 1 hts gX6_node_X6_isNode rfl rfl rfl ⟨rfl, hdX6_isNode⟩ ⟨(Nat.le_of_ble_eq_true rfl), (Nat.le_of_ble_eq_true rfl)⟩) hK hN hP hD hS hA [0, 1] [] [0, 1] rfl rfl rfl rfl (by decide) rfl rfl rfl rfl rfl rfl hl.1 rfl (Nat.le_of_ble_eq_true rfl) rfl dX6_node_9 ⟨Nat.zero_le _, Nat.zero_le _⟩ (fun H locs hP hD hS => ?_)
    refine lv_if_ne (tgt := 17) hx hb dX6_node_12 (by decide) (fun c_4 => ?_) (fun c_4 => ?_)
    · have hM := on_neg c_4 hM
      refine lv_aload_n hx hb dX6_node_17 rfl (lv_at hl 0 rfl) ?_
      refine lv_iload_n hx hb dX6_node_18 rfl (lv_at hl 1 rfl) ?_
      obtain ⟨q_5, hq_5, hM⟩ := on_bind hM
      refine on_callV (rest := []) (As := [.int v1]) (st1 := [.int q_5]) (C := RX6) (ci := 6) (q0 := 0) (wc := [(h_t, .inr (6, [.ref h_t_state, .ref h_t_images, .ref h_t_isKept, .ref h_t_pad, .int t_said, .int t_leastSize, .int t_leastSet, .int t_found, .ref h_t_row, .ref h_t_isUsed, .ref h_t_table, .int t_rank, .long t_determinant])), (h_t_state, .inl (cI, 4, .inl t_state))]) (wr := []) (wc' := [(h_t, .inr (6, [.ref h_t_state, .ref h_t_images, .ref h_t_isKept, .ref h_t_pad, .int t_said, .int t_leastSize, .int t_leastSet, .int t_found, .ref h_t_row, .ref h_t_isUsed, .ref h_t_table, .int t_rank, .long t_determinant])), (h_t_state, .inl (cI, 4, .inl t_state))]) (wf := [(h_t, .inr (6, [.ref h_t_state, .ref h_t_images, .ref h_t_isKept, .ref h_t_pad, .int t_said, .int t_leastSize, .int t_leastSet, .int t_found, .ref h_t_row, .ref h_t_isUsed, .ref h_t_table, .int t_rank, .long t_determinant])), (h_t_state, .inl (cI, 4, .inl t_state))]) (rt := (some (.int q_5))) ⟨hx, hb, hml, hown, hts⟩ (k_X6_netOf h_t h_t_state h_t_images h_t_isKept h_t_pad h_t_row h_t_isUsed h_t_table t_said t_leastSize t_leastSet t_found t_rank t_determinant t_state v1 q_5 hq_5) (cwV 1 hts gX6_node_X6_netOf rfl rfl rfl ⟨rfl, hdX6_netOf⟩ ⟨(Nat.le_of_ble_eq_true rfl), (Nat.le_of_ble_eq_true rfl)⟩) hK hN hP hD hS hA [0, 1] [] [0, 1] rfl rfl rfl rfl (by decide) rfl rfl rfl rfl rfl rfl hl.1 rfl (Nat.le_of_ble_eq_true rfl) rfl dX6_node_19 ⟨Nat.zero_le _, Nat.zero_le _⟩ (fun H locs hP hD hS => ?_)
      refine lv_istore (lv' := [(4, .int q_5), (0, .ref h_t), (1, .int v1), (2, .int v2), (3, .int v3)]) hx hb dX6_node_22 hl (by decide) rfl (fun ls hl => ?_)
      refine lv_iload_n hx hb dX6_node_24 rfl (lv_at hl 4 rfl) ?_
      by_cases c_16 : v3 = 0
      · have hM := on_pos c_16 hM
        refine lv_tableIn (tgt := 56) hx hb dX6_node_25 (by rw [c_16]; decide) (by rw [c_16]; decide) (by rw [c_16]; rfl) (by decide) ?_
        refine lv_aload_n hx hb dX6_node_56 rfl (lv_at hl 1 rfl) ?_
        obtain ⟨q_6, hq_6, hM⟩ := on_bind hM
        refine on_callV (rest := []) (As := []) (st1 := [.int q_6]) (C := RX6) (ci := 6) (q0 := 0) (wc := [(h_t, .inr (6, [.ref h_t_state, .ref h_t_images, .ref h_t_isKept, .ref h_t_pad, .int t_said, .int t_leastSize, .int t_leastSet, .int t_found, .ref h_t_row, .ref h_t_isUsed, .ref h_t_table, .int t_rank, .long t_determinant])), (h_t_state, .inl (cI, 4, .inl t_state))]) (wr := []) (wc' := [(h_t, .inr (6, [.ref h_t_state, .ref h_t_images, .ref h_t_isKept, .ref h_t_pad, .int t_said, .int t_leastSize, .int t_leastSet, .int t_found, .ref h_t_row, .ref h_t_isUsed, .ref h_t_table, .int t_rank, .long t_determinant])), (h_t_state, .inl (cI, 4, .inl t_state))]) (wf := [(h_t, .inr (6, [.ref h_t_state, .ref h_t_images, .ref h_t_isKept, .ref h_t_pad, .int t_said, .int t_leastSize, .int t_leastSet, .int t_found, .ref h_t_row, .ref h_t_isUsed, .ref h_t_table, .int t_rank, .long t_determinant])), (h_t_state, .inl (cI, 4, .inl t_state))]) (rt := (some (.int q_6))) ⟨hx, hb, hml, hown, hts⟩ (k_X6_many h_t h_t_state h_t_images h_t_isKept h_t_pad h_t_row h_t_isUsed h_t_table t_said t_leastSize t_leastSet t_found t_rank t_determinant t_state q_6 hq_6) (cwV 0 hts gX6_node_X6_many rfl rfl rfl ⟨rfl, hdX6_many⟩ ⟨(Nat.le_of_ble_eq_true rfl), (Nat.le_of_ble_eq_true rfl)⟩) hK hN hP hD hS hA [0, 1] [] [0, 1] rfl rfl rfl rfl (by decide) rfl rfl rfl rfl rfl rfl hl.1 rfl (Nat.le_of_ble_eq_true rfl) rfl dX6_node_57 ⟨Nat.zero_le _, Nat.zero_le _⟩ (fun H locs hP hD hS => ?_)
        refine lv_iload hx hb dX6_node_60 (lv_at hl 0 rfl) ?_
        refine lv_iload_n hx hb dX6_node_62 rfl (lv_at hl 3 rfl) ?_
        obtain ⟨q_7, hq_7, hM⟩ := on_bind hM
        refine on_callS0 (rest := []) (As := [.int q_6, .int q_5, .int v2]) (st1 := [.int q_7]) ⟨hx, hb, hml, hown, hts⟩ (k_X6_degree q_6 q_5 v2 q_7 hq_7) (va_cwS 3 hts gX6_node_X6_degree rfl rfl rfl hdX6_degree ⟨(Nat.le_of_ble_eq_true rfl), (Nat.le_of_ble_eq_true rfl)⟩) hK hN hP hD hS hA rfl hl.1 rfl (Nat.le_of_ble_eq_true rfl) rfl dX6_node_63 ⟨Nat.zero_le _, Nat.zero_le _⟩ (fun H locs hP hS => ?_)
        have hM := Option.some.inj hM
        subst hM
        rw [← hQ]
        exact on_iret hx hb hr hlk hP hD hS dX6_node_66
      · have hM := on_neg c_16 hM
        by_cases c_17 : v3 = 1
        · have hM := on_pos c_17 hM
          refine lv_tableIn (tgt := 67) hx hb dX6_node_25 (by rw [c_17]; decide) (by rw [c_17]; decide) (by rw [c_17]; rfl) (by decide) ?_
          refine lv_aload_n hx hb dX6_node_67 rfl (lv_at hl 1 rfl) ?_
          obtain ⟨q_8, hq_8, hM⟩ := on_bind hM
          refine on_callV (rest := []) (As := []) (st1 := [.int q_8]) (C := RX6) (ci := 6) (q0 := 0) (wc := [(h_t, .inr (6, [.ref h_t_state, .ref h_t_images, .ref h_t_isKept, .ref h_t_pad, .int t_said, .int t_leastSize, .int t_leastSet, .int t_found, .ref h_t_row, .ref h_t_isUsed, .ref h_t_table, .int t_rank, .long t_determinant])), (h_t_state, .inl (cI, 4, .inl t_state))]) (wr := []) (wc' := [(h_t, .inr (6, [.ref h_t_state, .ref h_t_images, .ref h_t_isKept, .ref h_t_pad, .int t_said, .int t_leastSize, .int t_leastSet, .int t_found, .ref h_t_row, .ref h_t_isUsed, .ref h_t_table, .int t_rank, .long t_determinant])), (h_t_state, .inl (cI, 4, .inl t_state))]) (wf := [(h_t, .inr (6, [.ref h_t_state, .ref h_t_images, .ref h_t_isKept, .ref h_t_pad, .int t_said, .int t_leastSize, .int t_leastSet, .int t_found, .ref h_t_row, .ref h_t_isUsed, .ref h_t_table, .int t_rank, .long t_determinant])), (h_t_state, .inl (cI, 4, .inl t_state))]) (rt := (some (.int q_8))) ⟨hx, hb, hml, hown, hts⟩ (k_X6_many h_t h_t_state h_t_images h_t_isKept h_t_pad h_t_row h_t_isUsed h_t_table t_said t_leastSize t_leastSet t_found t_rank t_determinant t_state q_8 hq_8) (cwV 0 hts gX6_node_X6_many rfl rfl rfl ⟨rfl, hdX6_many⟩ ⟨(Nat.le_of_ble_eq_true rfl), (Nat.le_of_ble_eq_true rfl)⟩) hK hN hP hD hS hA [0, 1] [] [0, 1] rfl rfl rfl rfl (by decide) rfl rfl rfl rfl rfl rfl hl.1 rfl (Nat.le_of_ble_eq_true rfl) rfl dX6_node_68 ⟨Nat.zero_le _, Nat.zero_le _⟩ (fun H locs hP hD hS => ?_)
          refine lv_iload hx hb dX6_node_71 (lv_at hl 0 rfl) ?_
          refine lv_iload_n hx hb dX6_node_73 rfl (lv_at hl 3 rfl) ?_
          obtain ⟨q_9, hq_9, hM⟩ := on_bind hM
          refine on_callS0 (rest := []) (As := [.int q_8, .int q_5, .int v2]) (st1 := [.int q_9]) ⟨hx, hb, hml, hown, hts⟩ (k_X6_oddOfNode q_8 q_5 v2 q_9 hq_9) (va_cwS 3 hts gX6_node_X6_oddOfNode rfl rfl rfl hdX6_oddOfNode ⟨(Nat.le_of_ble_eq_true rfl), (Nat.le_of_ble_eq_true rfl)⟩) hK hN hP hD hS hA rfl hl.1 rfl (Nat.le_of_ble_eq_true rfl) rfl dX6_node_74 ⟨Nat.zero_le _, Nat.zero_le _⟩ (fun H locs hP hS => ?_)
          have hM := Option.some.inj hM
          subst hM
          rw [← hQ]
          exact on_iret hx hb hr hlk hP hD hS dX6_node_77
        · have hM := on_neg c_17 hM
          by_cases c_18 : v3 = 2
          · have hM := on_pos c_18 hM
            refine lv_tableIn (tgt := 78) hx hb dX6_node_25 (by rw [c_18]; decide) (by rw [c_18]; decide) (by rw [c_18]; rfl) (by decide) ?_
            refine lv_aload_n hx hb dX6_node_78 rfl (lv_at hl 1 rfl) ?_
            obtain ⟨q_10, hq_10, hM⟩ := on_bind hM
            refine on_callV (rest := []) (As := []) (st1 := [.int q_10]) (C := RX6) (ci := 6) (q0 := 0) (wc := [(h_t, .inr (6, [.ref h_t_state, .ref h_t_images, .ref h_t_isKept, .ref h_t_pad, .int t_said, .int t_leastSize, .int t_leastSet, .int t_found, .ref h_t_row, .ref h_t_isUsed, .ref h_t_table, .int t_rank, .long t_determinant])), (h_t_state, .inl (cI, 4, .inl t_state))]) (wr := []) (wc' := [(h_t, .inr (6, [.ref h_t_state, .ref h_t_images, .ref h_t_isKept, .ref h_t_pad, .int t_said, .int t_leastSize, .int t_leastSet, .int t_found, .ref h_t_row, .ref h_t_isUsed, .ref h_t_table, .int t_rank, .long t_determinant])), (h_t_state, .inl (cI, 4, .inl t_state))]) (wf := [(h_t, .inr (6, [.ref h_t_state, .ref h_t_images, .ref h_t_isKept, .ref h_t_pad, .int t_said, .int t_leastSize, .int t_leastSet, .int t_found, .ref h_t_row, .ref h_t_isUsed, .ref h_t_table, .int t_rank, .long t_determinant])), (h_t_state, .inl (cI, 4, .inl t_state))]) (rt := (some (.int q_10))) ⟨hx, hb, hml, hown, hts⟩ (k_X6_many h_t h_t_state h_t_images h_t_isKept h_t_pad h_t_row h_t_isUsed h_t_table t_said t_leastSize t_leastSet t_found t_rank t_determinant t_state q_10 hq_10) (cwV 0 hts gX6_node_X6_many rfl rfl rfl ⟨rfl, hdX6_many⟩ ⟨(Nat.le_of_ble_eq_true rfl), (Nat.le_of_ble_eq_true rfl)⟩) hK hN hP hD hS hA [0, 1] [] [0, 1] rfl rfl rfl rfl (by decide) rfl rfl rfl rfl rfl rfl hl.1 rfl (Nat.le_of_ble_eq_true rfl) rfl dX6_node_79 ⟨Nat.zero_le _, Nat.zero_le _⟩ (fun H locs hP hD hS => ?_)
            refine lv_iload hx hb dX6_node_82 (lv_at hl 0 rfl) ?_
            refine lv_iload_n hx hb dX6_node_84 rfl (lv_at hl 3 rfl) ?_
            obtain ⟨q_11, hq_11, hM⟩ := on_bind hM
            refine on_callS0 (rest := []) (As := [.int q_10, .int q_5, .int v2]) (st1 := [.int q_11]) ⟨hx, hb, hml, hown, hts⟩ (k_X6_alone q_10 q_5 v2 q_11 hq_11) (va_cwS 3 hts gX6_node_X6_alone rfl rfl rfl hdX6_alone ⟨(Nat.le_of_ble_eq_true rfl), (Nat.le_of_ble_eq_true rfl)⟩) hK hN hP hD hS hA rfl hl.1 rfl (Nat.le_of_ble_eq_true rfl) rfl dX6_node_85 ⟨Nat.zero_le _, Nat.zero_le _⟩ (fun H locs hP hS => ?_)
            have hM := Option.some.inj hM
            subst hM
            rw [← hQ]
            exact on_iret hx hb hr hlk hP hD hS dX6_node_88
          · have hM := on_neg c_18 hM
            by_cases c_19 : v3 = 3
            · have hM := on_pos c_19 hM
              refine lv_tableIn (tgt := 89) hx hb dX6_node_25 (by rw [c_19]; decide) (by rw [c_19]; decide) (by rw [c_19]; rfl) (by decide) ?_
              refine lv_aload_n hx hb dX6_node_89 rfl (lv_at hl 1 rfl) ?_
              obtain ⟨q_12, hq_12, hM⟩ := on_bind hM
              refine on_callV (rest := []) (As := []) (st1 := [.int q_12]) (C := RX6) (ci := 6) (q0 := 0) (wc := [(h_t, .inr (6, [.ref h_t_state, .ref h_t_images, .ref h_t_isKept, .ref h_t_pad, .int t_said, .int t_leastSize, .int t_leastSet, .int t_found, .ref h_t_row, .ref h_t_isUsed, .ref h_t_table, .int t_rank, .long t_determinant])), (h_t_state, .inl (cI, 4, .inl t_state))]) (wr := []) (wc' := [(h_t, .inr (6, [.ref h_t_state, .ref h_t_images, .ref h_t_isKept, .ref h_t_pad, .int t_said, .int t_leastSize, .int t_leastSet, .int t_found, .ref h_t_row, .ref h_t_isUsed, .ref h_t_table, .int t_rank, .long t_determinant])), (h_t_state, .inl (cI, 4, .inl t_state))]) (wf := [(h_t, .inr (6, [.ref h_t_state, .ref h_t_images, .ref h_t_isKept, .ref h_t_pad, .int t_said, .int t_leastSize, .int t_leastSet, .int t_found, .ref h_t_row, .ref h_t_isUsed, .ref h_t_table, .int t_rank, .long t_determinant])), (h_t_state, .inl (cI, 4, .inl t_state))]) (rt := (some (.int q_12))) ⟨hx, hb, hml, hown, hts⟩ (k_X6_many h_t h_t_state h_t_images h_t_isKept h_t_pad h_t_row h_t_isUsed h_t_table t_said t_leastSize t_leastSet t_found t_rank t_determinant t_state q_12 hq_12) (cwV 0 hts gX6_node_X6_many rfl rfl rfl ⟨rfl, hdX6_many⟩ ⟨(Nat.le_of_ble_eq_true rfl), (Nat.le_of_ble_eq_true rfl)⟩) hK hN hP hD hS hA [0, 1] [] [0, 1] rfl rfl rfl rfl (by decide) rfl rfl rfl rfl rfl rfl hl.1 rfl (Nat.le_of_ble_eq_true rfl) rfl dX6_node_90 ⟨Nat.zero_le _, Nat.zero_le _⟩ (fun H locs hP hD hS => ?_)
              refine lv_aload_n hx hb dX6_node_93 rfl (lv_at hl 1 rfl) ?_
              obtain ⟨q_13, hq_13, hM⟩ := on_bind hM
              refine on_callV (rest := [.int q_12]) (As := []) (st1 := [.int q_13, .int q_12]) (C := RX6) (ci := 6) (q0 := 0) (wc := [(h_t, .inr (6, [.ref h_t_state, .ref h_t_images, .ref h_t_isKept, .ref h_t_pad, .int t_said, .int t_leastSize, .int t_leastSet, .int t_found, .ref h_t_row, .ref h_t_isUsed, .ref h_t_table, .int t_rank, .long t_determinant])), (h_t_state, .inl (cI, 4, .inl t_state))]) (wr := []) (wc' := [(h_t, .inr (6, [.ref h_t_state, .ref h_t_images, .ref h_t_isKept, .ref h_t_pad, .int t_said, .int t_leastSize, .int t_leastSet, .int t_found, .ref h_t_row, .ref h_t_isUsed, .ref h_t_table, .int t_rank, .long t_determinant])), (h_t_state, .inl (cI, 4, .inl t_state))]) (wf := [(h_t, .inr (6, [.ref h_t_state, .ref h_t_images, .ref h_t_isKept, .ref h_t_pad, .int t_said, .int t_leastSize, .int t_leastSet, .int t_found, .ref h_t_row, .ref h_t_isUsed, .ref h_t_table, .int t_rank, .long t_determinant])), (h_t_state, .inl (cI, 4, .inl t_state))]) (rt := (some (.int q_13))) ⟨hx, hb, hml, hown, hts⟩ (k_X6_many h_t h_t_state h_t_images h_t_isKept h_t_pad h_t_row h_t_isUsed h_t_table t_said t_leastSize t_leastSet t_found t_rank t_determinant t_state q_13 hq_13) (cwV 0 hts gX6_node_X6_many rfl rfl rfl ⟨rfl, hdX6_many⟩ ⟨(Nat.le_of_ble_eq_true rfl), (Nat.le_of_ble_eq_true rfl)⟩) hK hN hP hD hS hA [0, 1] [] [0, 1] rfl rfl rfl rfl (by decide) rfl rfl rfl rfl rfl rfl hl.1 rfl (Nat.le_of_ble_eq_true rfl) rfl dX6_node_94 ⟨Nat.zero_le _, Nat.zero_le _⟩ (fun H locs hP hD hS => ?_)
              refine lv_iload hx hb dX6_node_97 (lv_at hl 0 rfl) ?_
              refine lv_iload_n hx hb dX6_node_99 rfl (lv_at hl 3 rfl) ?_
              obtain ⟨q_14, hq_14, hM⟩ := on_bind hM
              refine on_callS0 (rest := [.int q_12]) (As := [.int q_13, .int q_5, .int v2]) (st1 := [.int q_14, .int q_12]) ⟨hx, hb, hml, hown, hts⟩ (k_X6_alone q_13 q_5 v2 q_14 hq_14) (va_cwS 3 hts gX6_node_X6_alone rfl rfl rfl hdX6_alone ⟨(Nat.le_of_ble_eq_true rfl), (Nat.le_of_ble_eq_true rfl)⟩) hK hN hP hD hS hA rfl hl.1 rfl (Nat.le_of_ble_eq_true rfl) rfl dX6_node_100 ⟨Nat.zero_le _, Nat.zero_le _⟩ (fun H locs hP hS => ?_)
              refine lv_iload_n hx hb dX6_node_103 rfl (lv_at hl 3 rfl) ?_
              obtain ⟨q_15, hq_15, hM⟩ := on_bind hM
              refine on_callS0 (rest := []) (As := [.int q_12, .int q_14, .int v2]) (st1 := [.int q_15]) ⟨hx, hb, hml, hown, hts⟩ (k_X6_without q_12 q_14 v2 q_15 hq_15) (va_cwS 3 hts gX6_node_X6_without rfl rfl rfl hdX6_without ⟨(Nat.le_of_ble_eq_true rfl), (Nat.le_of_ble_eq_true rfl)⟩) hK hN hP hD hS hA rfl hl.1 rfl (Nat.le_of_ble_eq_true rfl) rfl dX6_node_104 ⟨Nat.zero_le _, Nat.zero_le _⟩ (fun H locs hP hS => ?_)
              have hM := Option.some.inj hM
              subst hM
              rw [← hQ]
              exact on_iret hx hb hr hlk hP hD hS dX6_node_107
            · have hM := on_neg c_19 hM
              refine lv_tableOut (tgt := 108) hx hb dX6_node_25 (on_swOut (n := 4) (fun k hk => by rcases (show k = 0 ∨ k = 1 ∨ k = 2 ∨ k = 3 by omega) with rfl | rfl | rfl | rfl <;> first | exact c_16 | exact c_17 | exact c_18 | exact c_19) (by decide)) (by decide) ?_
              refine lv_bipush (v := -2) hx hb dX6_node_108 (by decide) ?_
              have hM := Option.some.inj hM
              subst hM
              rw [← hQ]
              exact on_iret hx hb hr hlk hP hD hS dX6_node_110
    · have hM := on_pos c_4 hM
      refine lv_iconst (v := -1) hx hb dX6_node_15 (by decide) ?_
      have hM := Option.some.inj hM
      subst hM
      rw [← hQ]
      exact on_iret hx hb hr hlk hP hD hS dX6_node_16
abbrev rm_X6_common : Room := { frames := 4, cells := 0, slots := 0, locals := 92 }
set_option maxHeartbeats 4000000 in
set_option maxRecDepth 100000 in
theorem k_X6_common {l : Launch} {D : va_G} {cI cJ cZ cS cA : ClassId}   (v0 : Int32) (v1 : Int32) (v2 : Int32) (v3 : Int32) (out : Int32) (hM : M_X6_common v0 v1 v2 v3 = some out) : on_Con l yX6_common wsX6_common rm_X6_common [.int v0, .int v1, .int v2, .int v3] D (on_T cI cJ cZ cS cA) [] (some (.int out)) [] := by
  unfold M_X6_common at hM
  refine on_enter (cc := cX6_common) (nL := 4) (rt := (some .int)) (own := RX6) (by decide +kernel) rfl rfl (Nat.le_of_ble_eq_true rfl) ?_
  intro p e s m below meth c A ls hx hb hml hr hlk hts hown hA hK hN H locs hP hD hS hl
  have hl : lv_has ls 4 [(0, .int v0), (1, .int v1), (2, .int v2), (3, .int v3)] := hl
  generalize hQ : MQ below (on_Q D (some (.int out)) [] A) _ s 0 0 A = Q
  generalize hAr : List.toArray ([.int v0, .int v1, .int v2, .int v3] : List Value) = args at hts hQ ⊢
  refine lv_iload_n hx hb dX6_common_0 rfl (lv_at hl 0 rfl) ?_
  refine lv_iload_n hx hb dX6_common_1 rfl (lv_at hl 1 rfl) ?_
  refine lv_iload_n hx hb dX6_common_2 rfl (lv_at hl 2 rfl) ?_
  obtain ⟨q_1, hq_1, hM⟩ := on_bind hM
  refine on_callS0 (rest := []) (As := [.int v0, .int v1, .int v2]) (st1 := [.int q_1]) ⟨hx, hb, hml, hown, hts⟩ (k_X6_neighbours v0 v1 v2 q_1 hq_1) (va_cwS 3 hts gX6_common_X6_neighbours rfl rfl rfl hdX6_neighbours ⟨(Nat.le_of_ble_eq_true rfl), (Nat.le_of_ble_eq_true rfl)⟩) hK hN hP hD hS hA rfl hl.1 rfl (Nat.le_of_ble_eq_true rfl) rfl dX6_common_3 ⟨Nat.zero_le _, Nat.zero_le _⟩ (fun H locs hP hS => ?_)
  refine lv_iload_n hx hb dX6_common_6 rfl (lv_at hl 0 rfl) ?_
  refine lv_iload_n hx hb dX6_common_7 rfl (lv_at hl 1 rfl) ?_
  refine lv_iload_n hx hb dX6_common_8 rfl (lv_at hl 3 rfl) ?_
  obtain ⟨q_2, hq_2, hM⟩ := on_bind hM
  refine on_callS0 (rest := [.int q_1]) (As := [.int v0, .int v1, .int v3]) (st1 := [.int q_2, .int q_1]) ⟨hx, hb, hml, hown, hts⟩ (k_X6_neighbours v0 v1 v3 q_2 hq_2) (va_cwS 3 hts gX6_common_X6_neighbours rfl rfl rfl hdX6_neighbours ⟨(Nat.le_of_ble_eq_true rfl), (Nat.le_of_ble_eq_true rfl)⟩) hK hN hP hD hS hA rfl hl.1 rfl (Nat.le_of_ble_eq_true rfl) rfl dX6_common_9 ⟨Nat.zero_le _, Nat.zero_le _⟩ (fun H locs hP hS => ?_)
  refine lv_iand hx hb dX6_common_12 ?_
  obtain ⟨q_3, hq_3, hM⟩ := on_bind hM
  refine on_callS0 (rest := []) (As := [.int (q_1 &&& q_2)]) (st1 := [.int q_3]) ⟨hx, hb, hml, hown, hts⟩ (k_X6_size (q_1 &&& q_2) q_3 hq_3) (va_cwS 1 hts gX6_common_X6_size rfl rfl rfl hdX6_size ⟨(Nat.le_of_ble_eq_true rfl), (Nat.le_of_ble_eq_true rfl)⟩) hK hN hP hD hS hA rfl hl.1 rfl (Nat.le_of_ble_eq_true rfl) rfl dX6_common_13 ⟨Nat.zero_le _, Nat.zero_le _⟩ (fun H locs hP hS => ?_)
  have hM := Option.some.inj hM
  subst hM
  rw [← hQ]
  exact on_iret hx hb hr hlk hP hD hS dX6_common_16
abbrev rm_X6_pair : Room := { frames := 5, cells := 0, slots := 0, locals := 117 }
set_option maxHeartbeats 4000000 in
set_option maxRecDepth 100000 in
theorem k_X6_pair {l : Launch} {D : va_G} {cI cJ cZ cS cA : ClassId} (h_t : Nat) (h_t_state : Nat) (h_t_images : Nat) (h_t_isKept : Nat) (h_t_pad : Nat) (h_t_row : Nat) (h_t_isUsed : Nat) (h_t_table : Nat) (t_said : Int32) (t_leastSize : Int32) (t_leastSet : Int32) (t_found : Int32) (t_rank : Int32) (t_determinant : Int64) (t_state : Nat → Int32) (v1 : Int32) (v2 : Int32) (v3 : Int32) (v4 : Int32) (out : Int32) (hM : M_X6_pair v1 v2 v3 v4 t_state = some out) : on_Con l yX6_pair wsX6_pair rm_X6_pair [.ref h_t, .int v1, .int v2, .int v3, .int v4] D (on_T cI cJ cZ cS cA) [(h_t, .inr (6, [.ref h_t_state, .ref h_t_images, .ref h_t_isKept, .ref h_t_pad, .int t_said, .int t_leastSize, .int t_leastSet, .int t_found, .ref h_t_row, .ref h_t_isUsed, .ref h_t_table, .int t_rank, .long t_determinant])), (h_t_state, .inl (cI, 4, .inl t_state))] (some (.int out)) [(h_t, .inr (6, [.ref h_t_state, .ref h_t_images, .ref h_t_isKept, .ref h_t_pad, .int t_said, .int t_leastSize, .int t_leastSet, .int t_found, .ref h_t_row, .ref h_t_isUsed, .ref h_t_table, .int t_rank, .long t_determinant])), (h_t_state, .inl (cI, 4, .inl t_state))] := by
  unfold M_X6_pair at hM
  refine on_enter (cc := cX6_pair) (nL := 6) (rt := (some .int)) (own := RX6) (by decide +kernel) rfl rfl (Nat.le_of_ble_eq_true rfl) ?_
  intro p e s m below meth c A ls hx hb hml hr hlk hts hown hA hK hN H locs hP hD hS hl
  have hl : lv_has ls 6 [(0, .ref h_t), (1, .int v1), (2, .int v2), (3, .int v3), (4, .int v4)] := hl
  generalize hQ : MQ below (on_Q D (some (.int out)) [(h_t, .inr (6, [.ref h_t_state, .ref h_t_images, .ref h_t_isKept, .ref h_t_pad, .int t_said, .int t_leastSize, .int t_leastSet, .int t_found, .ref h_t_row, .ref h_t_isUsed, .ref h_t_table, .int t_rank, .long t_determinant])), (h_t_state, .inl (cI, 4, .inl t_state))] A) _ s 0 0 A = Q
  generalize hAr : List.toArray ([.ref h_t, .int v1, .int v2, .int v3, .int v4] : List Value) = args at hts hQ ⊢
  refine lv_iload_n hx hb dX6_pair_0 rfl (lv_at hl 1 rfl) ?_
  obtain ⟨q_1, hq_1, hM⟩ := on_bind hM
  refine on_callS0 (rest := []) (As := [.int v1]) (st1 := [.int q_1]) ⟨hx, hb, hml, hown, hts⟩ (k_X6_isSlot v1 q_1 hq_1) (va_cwS 1 hts gX6_pair_X6_isSlot rfl rfl rfl hdX6_isSlot ⟨(Nat.le_of_ble_eq_true rfl), (Nat.le_of_ble_eq_true rfl)⟩) hK hN hP hD hS hA rfl hl.1 rfl (Nat.le_of_ble_eq_true rfl) rfl dX6_pair_1 ⟨Nat.zero_le _, Nat.zero_le _⟩ (fun H locs hP hS => ?_)
  refine lv_if_eq (tgt := 23) hx hb dX6_pair_4 (by decide) (fun c_2 => ?_) (fun c_2 => ?_)
  · have hM := on_pos c_2 hM
    refine lv_iconst (v := -1) hx hb dX6_pair_23 (by decide) ?_
    have hM := Option.some.inj hM
    subst hM
    rw [← hQ]
    exact on_iret hx hb hr hlk hP hD hS dX6_pair_24
  · have hM := on_neg c_2 hM
    refine lv_aload_n hx hb dX6_pair_7 rfl (lv_at hl 0 rfl) ?_
    refine lv_iload_n hx hb dX6_pair_8 rfl (lv_at hl 2 rfl) ?_
    obtain ⟨q_3, hq_3, hM⟩ := on_bind hM
    refine on_callV (rest := []) (As := [.int v2]) (st1 := [.int q_3]) (C := RX6) (ci := 6) (q0 := 0) (wc := [(h_t, .inr (6, [.ref h_t_state, .ref h_t_images, .ref h_t_isKept, .ref h_t_pad, .int t_said, .int t_leastSize, .int t_leastSet, .int t_found, .ref h_t_row, .ref h_t_isUsed, .ref h_t_table, .int t_rank, .long t_determinant])), (h_t_state, .inl (cI, 4, .inl t_state))]) (wr := []) (wc' := [(h_t, .inr (6, [.ref h_t_state, .ref h_t_images, .ref h_t_isKept, .ref h_t_pad, .int t_said, .int t_leastSize, .int t_leastSet, .int t_found, .ref h_t_row, .ref h_t_isUsed, .ref h_t_table, .int t_rank, .long t_determinant])), (h_t_state, .inl (cI, 4, .inl t_state))]) (wf := [(h_t, .inr (6, [.ref h_t_state, .ref h_t_images, .ref h_t_isKept, .ref h_t_pad, .int t_said, .int t_leastSize, .int t_leastSet, .int t_found, .ref h_t_row, .ref h_t_isUsed, .ref h_t_table, .int t_rank, .long t_determinant])), (h_t_state, .inl (cI, 4, .inl t_state))]) (rt := (some (.int q_3))) ⟨hx, hb, hml, hown, hts⟩ (k_X6_isNode h_t h_t_state h_t_images h_t_isKept h_t_pad h_t_row h_t_isUsed h_t_table t_said t_leastSize t_leastSet t_found t_rank t_determinant t_state v2 q_3 hq_3) (cwV 1 hts gX6_pair_X6_isNode rfl rfl rfl ⟨rfl, hdX6_isNode⟩ ⟨(Nat.le_of_ble_eq_true rfl), (Nat.le_of_ble_eq_true rfl)⟩) hK hN hP hD hS hA [0, 1] [] [0, 1] rfl rfl rfl rfl (by decide) rfl rfl rfl rfl rfl rfl hl.1 rfl (Nat.le_of_ble_eq_true rfl) rfl dX6_pair_9 ⟨Nat.zero_le _, Nat.zero_le _⟩ (fun H locs hP hD hS => ?_)
    refine lv_if_eq (tgt := 23) hx hb dX6_pair_12 (by decide) (fun c_4 => ?_) (fun c_4 => ?_)
    · have hM := on_pos c_4 hM
      refine lv_iconst (v := -1) hx hb dX6_pair_23 (by decide) ?_
      have hM := Option.some.inj hM
      subst hM
      rw [← hQ]
      exact on_iret hx hb hr hlk hP hD hS dX6_pair_24
    · have hM := on_neg c_4 hM
      refine lv_aload_n hx hb dX6_pair_15 rfl (lv_at hl 0 rfl) ?_
      refine lv_iload_n hx hb dX6_pair_16 rfl (lv_at hl 3 rfl) ?_
      obtain ⟨q_5, hq_5, hM⟩ := on_bind hM
      refine on_callV (rest := []) (As := [.int v3]) (st1 := [.int q_5]) (C := RX6) (ci := 6) (q0 := 0) (wc := [(h_t, .inr (6, [.ref h_t_state, .ref h_t_images, .ref h_t_isKept, .ref h_t_pad, .int t_said, .int t_leastSize, .int t_leastSet, .int t_found, .ref h_t_row, .ref h_t_isUsed, .ref h_t_table, .int t_rank, .long t_determinant])), (h_t_state, .inl (cI, 4, .inl t_state))]) (wr := []) (wc' := [(h_t, .inr (6, [.ref h_t_state, .ref h_t_images, .ref h_t_isKept, .ref h_t_pad, .int t_said, .int t_leastSize, .int t_leastSet, .int t_found, .ref h_t_row, .ref h_t_isUsed, .ref h_t_table, .int t_rank, .long t_determinant])), (h_t_state, .inl (cI, 4, .inl t_state))]) (wf := [(h_t, .inr (6, [.ref h_t_state, .ref h_t_images, .ref h_t_isKept, .ref h_t_pad, .int t_said, .int t_leastSize, .int t_leastSet, .int t_found, .ref h_t_row, .ref h_t_isUsed, .ref h_t_table, .int t_rank, .long t_determinant])), (h_t_state, .inl (cI, 4, .inl t_state))]) (rt := (some (.int q_5))) ⟨hx, hb, hml, hown, hts⟩ (k_X6_isNode h_t h_t_state h_t_images h_t_isKept h_t_pad h_t_row h_t_isUsed h_t_table t_said t_leastSize t_leastSet t_found t_rank t_determinant t_state v3 q_5 hq_5) (cwV 1 hts gX6_pair_X6_isNode rfl rfl rfl ⟨rfl, hdX6_isNode⟩ ⟨(Nat.le_of_ble_eq_true rfl), (Nat.le_of_ble_eq_true rfl)⟩) hK hN hP hD hS hA [0, 1] [] [0, 1] rfl rfl rfl rfl (by decide) rfl rfl rfl rfl rfl rfl hl.1 rfl (Nat.le_of_ble_eq_true rfl) rfl dX6_pair_17 ⟨Nat.zero_le _, Nat.zero_le _⟩ (fun H locs hP hD hS => ?_)
      refine lv_if_ne (tgt := 25) hx hb dX6_pair_20 (by decide) (fun c_6 => ?_) (fun c_6 => ?_)
      · have hM := on_neg c_6 hM
        refine lv_iload_n hx hb dX6_pair_25 rfl (lv_at hl 2 rfl) ?_
        refine lv_iload_n hx hb dX6_pair_26 rfl (lv_at hl 3 rfl) ?_
        refine lv_icmp_eq (tgt := 40) hx hb dX6_pair_27 (by decide) (fun c_7 => ?_) (fun c_7 => ?_)
        · have hM := on_pos c_7 hM
          refine lv_bipush (v := -2) hx hb dX6_pair_40 (by decide) ?_
          have hM := Option.some.inj hM
          subst hM
          rw [← hQ]
          exact on_iret hx hb hr hlk hP hD hS dX6_pair_42
        · have hM := on_neg c_7 hM
          refine lv_iload hx hb dX6_pair_30 (lv_at hl 4 rfl) ?_
          refine lv_iconst (v := 0) hx hb dX6_pair_32 (by decide) ?_
          refine lv_iconst (v := 2) hx hb dX6_pair_33 (by decide) ?_
          obtain ⟨q_8, hq_8, hM⟩ := on_bind hM
          refine on_callS0 (rest := []) (As := [.int v4, .int (0 : Int32), .int (2 : Int32)]) (st1 := [.int q_8]) ⟨hx, hb, hml, hown, hts⟩ (k_X6_in v4 (0 : Int32) (2 : Int32) q_8 hq_8) (va_cwS 3 hts gX6_pair_X6_in rfl rfl rfl hdX6_in ⟨(Nat.le_of_ble_eq_true rfl), (Nat.le_of_ble_eq_true rfl)⟩) hK hN hP hD hS hA rfl hl.1 rfl (Nat.le_of_ble_eq_true rfl) rfl dX6_pair_34 ⟨Nat.zero_le _, Nat.zero_le _⟩ (fun H locs hP hS => ?_)
          refine lv_if_ne (tgt := 43) hx hb dX6_pair_37 (by decide) (fun c_9 => ?_) (fun c_9 => ?_)
          · have hM := on_neg c_9 hM
            refine lv_aload_n hx hb dX6_pair_43 rfl (lv_at hl 0 rfl) ?_
            refine lv_iload_n hx hb dX6_pair_44 rfl (lv_at hl 1 rfl) ?_
            obtain ⟨q_10, hq_10, hM⟩ := on_bind hM
            refine on_callV (rest := []) (As := [.int v1]) (st1 := [.int q_10]) (C := RX6) (ci := 6) (q0 := 0) (wc := [(h_t, .inr (6, [.ref h_t_state, .ref h_t_images, .ref h_t_isKept, .ref h_t_pad, .int t_said, .int t_leastSize, .int t_leastSet, .int t_found, .ref h_t_row, .ref h_t_isUsed, .ref h_t_table, .int t_rank, .long t_determinant])), (h_t_state, .inl (cI, 4, .inl t_state))]) (wr := []) (wc' := [(h_t, .inr (6, [.ref h_t_state, .ref h_t_images, .ref h_t_isKept, .ref h_t_pad, .int t_said, .int t_leastSize, .int t_leastSet, .int t_found, .ref h_t_row, .ref h_t_isUsed, .ref h_t_table, .int t_rank, .long t_determinant])), (h_t_state, .inl (cI, 4, .inl t_state))]) (wf := [(h_t, .inr (6, [.ref h_t_state, .ref h_t_images, .ref h_t_isKept, .ref h_t_pad, .int t_said, .int t_leastSize, .int t_leastSet, .int t_found, .ref h_t_row, .ref h_t_isUsed, .ref h_t_table, .int t_rank, .long t_determinant])), (h_t_state, .inl (cI, 4, .inl t_state))]) (rt := (some (.int q_10))) ⟨hx, hb, hml, hown, hts⟩ (k_X6_netOf h_t h_t_state h_t_images h_t_isKept h_t_pad h_t_row h_t_isUsed h_t_table t_said t_leastSize t_leastSet t_found t_rank t_determinant t_state v1 q_10 hq_10) (cwV 1 hts gX6_pair_X6_netOf rfl rfl rfl ⟨rfl, hdX6_netOf⟩ ⟨(Nat.le_of_ble_eq_true rfl), (Nat.le_of_ble_eq_true rfl)⟩) hK hN hP hD hS hA [0, 1] [] [0, 1] rfl rfl rfl rfl (by decide) rfl rfl rfl rfl rfl rfl hl.1 rfl (Nat.le_of_ble_eq_true rfl) rfl dX6_pair_45 ⟨Nat.zero_le _, Nat.zero_le _⟩ (fun H locs hP hD hS => ?_)
            refine lv_istore (lv' := [(5, .int q_10), (0, .ref h_t), (1, .int v1), (2, .int v2), (3, .int v3), (4, .int v4)]) hx hb dX6_pair_48 hl (by decide) rfl (fun ls hl => ?_)
            refine lv_iload hx hb dX6_pair_50 (lv_at hl 5 rfl) ?_
            refine lv_if_ne (tgt := 69) hx hb dX6_pair_52 (by decide) (fun c_11 => ?_) (fun c_11 => ?_)
            · have hM := on_neg c_11 hM
              refine lv_iload hx hb dX6_pair_69 (lv_at hl 5 rfl) ?_
              refine lv_iconst (v := 1) hx hb dX6_pair_71 (by decide) ?_
              refine lv_icmp_ne (tgt := 89) hx hb dX6_pair_72 (by decide) (fun c_12 => ?_) (fun c_12 => ?_)
              · have hM := on_neg c_12 hM
                refine lv_aload_n hx hb dX6_pair_89 rfl (lv_at hl 1 rfl) ?_
                obtain ⟨q_13, hq_13, hM⟩ := on_bind hM
                refine on_callV (rest := []) (As := []) (st1 := [.int q_13]) (C := RX6) (ci := 6) (q0 := 0) (wc := [(h_t, .inr (6, [.ref h_t_state, .ref h_t_images, .ref h_t_isKept, .ref h_t_pad, .int t_said, .int t_leastSize, .int t_leastSet, .int t_found, .ref h_t_row, .ref h_t_isUsed, .ref h_t_table, .int t_rank, .long t_determinant])), (h_t_state, .inl (cI, 4, .inl t_state))]) (wr := []) (wc' := [(h_t, .inr (6, [.ref h_t_state, .ref h_t_images, .ref h_t_isKept, .ref h_t_pad, .int t_said, .int t_leastSize, .int t_leastSet, .int t_found, .ref h_t_row, .ref h_t_isUsed, .ref h_t_table, .int t_rank, .long t_determinant])), (h_t_state, .inl (cI, 4, .inl t_state))]) (wf := [(h_t, .inr (6, [.ref h_t_state, .ref h_t_images, .ref h_t_isKept, .ref h_t_pad, .int t_said, .int t_leastSize, .int t_leastSet, .int t_found, .ref h_t_row, .ref h_t_isUsed, .ref h_t_table, .int t_rank, .long t_determinant])), (h_t_state, .inl (cI, 4, .inl t_state))]) (rt := (some (.int q_13))) ⟨hx, hb, hml, hown, hts⟩ (k_X6_many h_t h_t_state h_t_images h_t_isKept h_t_pad h_t_row h_t_isUsed h_t_table t_said t_leastSize t_leastSet t_found t_rank t_determinant t_state q_13 hq_13) (cwV 0 hts gX6_pair_X6_many rfl rfl rfl ⟨rfl, hdX6_many⟩ ⟨(Nat.le_of_ble_eq_true rfl), (Nat.le_of_ble_eq_true rfl)⟩) hK hN hP hD hS hA [0, 1] [] [0, 1] rfl rfl rfl rfl (by decide) rfl rfl rfl rfl rfl rfl hl.1 rfl (Nat.le_of_ble_eq_true rfl) rfl dX6_pair_90 ⟨Nat.zero_le _, Nat.zero_le _⟩ (fun H locs hP hD hS => ?_)
                refine lv_iload hx hb dX6_pair_93 (lv_at hl 0 rfl) ?_
                refine lv_iload_n hx hb dX6_pair_95 rfl (lv_at hl 3 rfl) ?_
                refine lv_iload_n hx hb dX6_pair_96 rfl (lv_at hl 4 rfl) ?_
                obtain ⟨q_14, hq_14, hM⟩ := on_bind hM
                refine on_callS0 (rest := []) (As := [.int q_13, .int q_10, .int v2, .int v3]) (st1 := [.int q_14]) ⟨hx, hb, hml, hown, hts⟩ (k_X6_common q_13 q_10 v2 v3 q_14 hq_14) (va_cwS 4 hts gX6_pair_X6_common rfl rfl rfl hdX6_common ⟨(Nat.le_of_ble_eq_true rfl), (Nat.le_of_ble_eq_true rfl)⟩) hK hN hP hD hS hA rfl hl.1 rfl (Nat.le_of_ble_eq_true rfl) rfl dX6_pair_97 ⟨Nat.zero_le _, Nat.zero_le _⟩ (fun H locs hP hS => ?_)
                have hM := Option.some.inj hM
                subst hM
                rw [← hQ]
                exact on_iret hx hb hr hlk hP hD hS dX6_pair_100
              · have hM := on_pos c_12 hM
                refine lv_aload_n hx hb dX6_pair_75 rfl (lv_at hl 1 rfl) ?_
                obtain ⟨q_15, hq_15, hM⟩ := on_bind hM
                refine on_callV (rest := []) (As := []) (st1 := [.int q_15]) (C := RX6) (ci := 6) (q0 := 0) (wc := [(h_t, .inr (6, [.ref h_t_state, .ref h_t_images, .ref h_t_isKept, .ref h_t_pad, .int t_said, .int t_leastSize, .int t_leastSet, .int t_found, .ref h_t_row, .ref h_t_isUsed, .ref h_t_table, .int t_rank, .long t_determinant])), (h_t_state, .inl (cI, 4, .inl t_state))]) (wr := []) (wc' := [(h_t, .inr (6, [.ref h_t_state, .ref h_t_images, .ref h_t_isKept, .ref h_t_pad, .int t_said, .int t_leastSize, .int t_leastSet, .int t_found, .ref h_t_row, .ref h_t_isUsed, .ref h_t_table, .int t_rank, .long t_determinant])), (h_t_state, .inl (cI, 4, .inl t_state))]) (wf := [(h_t, .inr (6, [.ref h_t_state, .ref h_t_images, .ref h_t_isKept, .ref h_t_pad, .int t_said, .int t_leastSize, .int t_leastSet, .int t_found, .ref h_t_row, .ref h_t_isUsed, .ref h_t_table, .int t_rank, .long t_determinant])), (h_t_state, .inl (cI, 4, .inl t_state))]) (rt := (some (.int q_15))) ⟨hx, hb, hml, hown, hts⟩ (k_X6_many h_t h_t_state h_t_images h_t_isKept h_t_pad h_t_row h_t_isUsed h_t_table t_said t_leastSize t_leastSet t_found t_rank t_determinant t_state q_15 hq_15) (cwV 0 hts gX6_pair_X6_many rfl rfl rfl ⟨rfl, hdX6_many⟩ ⟨(Nat.le_of_ble_eq_true rfl), (Nat.le_of_ble_eq_true rfl)⟩) hK hN hP hD hS hA [0, 1] [] [0, 1] rfl rfl rfl rfl (by decide) rfl rfl rfl rfl rfl rfl hl.1 rfl (Nat.le_of_ble_eq_true rfl) rfl dX6_pair_76 ⟨Nat.zero_le _, Nat.zero_le _⟩ (fun H locs hP hD hS => ?_)
                refine lv_iload hx hb dX6_pair_79 (lv_at hl 0 rfl) ?_
                refine lv_iload_n hx hb dX6_pair_81 rfl (lv_at hl 3 rfl) ?_
                refine lv_iload_n hx hb dX6_pair_82 rfl (lv_at hl 4 rfl) ?_
                obtain ⟨q_16, hq_16, hM⟩ := on_bind hM
                refine on_callS0 (rest := []) (As := [.int q_15, .int q_10, .int v2, .int v3]) (st1 := [.int q_16]) ⟨hx, hb, hml, hown, hts⟩ (k_X6_oddOfPair q_15 q_10 v2 v3 q_16 hq_16) (va_cwS 4 hts gX6_pair_X6_oddOfPair rfl rfl rfl hdX6_oddOfPair ⟨(Nat.le_of_ble_eq_true rfl), (Nat.le_of_ble_eq_true rfl)⟩) hK hN hP hD hS hA rfl hl.1 rfl (Nat.le_of_ble_eq_true rfl) rfl dX6_pair_83 ⟨Nat.zero_le _, Nat.zero_le _⟩ (fun H locs hP hS => ?_)
                refine lv_goto (tgt := 100) hx hb dX6_pair_86 (by decide) ?_
                have hM := Option.some.inj hM
                subst hM
                rw [← hQ]
                exact on_iret hx hb hr hlk hP hD hS dX6_pair_100
            · have hM := on_pos c_11 hM
              refine lv_aload_n hx hb dX6_pair_55 rfl (lv_at hl 1 rfl) ?_
              obtain ⟨q_17, hq_17, hM⟩ := on_bind hM
              refine on_callV (rest := []) (As := []) (st1 := [.int q_17]) (C := RX6) (ci := 6) (q0 := 0) (wc := [(h_t, .inr (6, [.ref h_t_state, .ref h_t_images, .ref h_t_isKept, .ref h_t_pad, .int t_said, .int t_leastSize, .int t_leastSet, .int t_found, .ref h_t_row, .ref h_t_isUsed, .ref h_t_table, .int t_rank, .long t_determinant])), (h_t_state, .inl (cI, 4, .inl t_state))]) (wr := []) (wc' := [(h_t, .inr (6, [.ref h_t_state, .ref h_t_images, .ref h_t_isKept, .ref h_t_pad, .int t_said, .int t_leastSize, .int t_leastSet, .int t_found, .ref h_t_row, .ref h_t_isUsed, .ref h_t_table, .int t_rank, .long t_determinant])), (h_t_state, .inl (cI, 4, .inl t_state))]) (wf := [(h_t, .inr (6, [.ref h_t_state, .ref h_t_images, .ref h_t_isKept, .ref h_t_pad, .int t_said, .int t_leastSize, .int t_leastSet, .int t_found, .ref h_t_row, .ref h_t_isUsed, .ref h_t_table, .int t_rank, .long t_determinant])), (h_t_state, .inl (cI, 4, .inl t_state))]) (rt := (some (.int q_17))) ⟨hx, hb, hml, hown, hts⟩ (k_X6_many h_t h_t_state h_t_images h_t_isKept h_t_pad h_t_row h_t_isUsed h_t_table t_said t_leastSize t_leastSet t_found t_rank t_determinant t_state q_17 hq_17) (cwV 0 hts gX6_pair_X6_many rfl rfl rfl ⟨rfl, hdX6_many⟩ ⟨(Nat.le_of_ble_eq_true rfl), (Nat.le_of_ble_eq_true rfl)⟩) hK hN hP hD hS hA [0, 1] [] [0, 1] rfl rfl rfl rfl (by decide) rfl rfl rfl rfl rfl rfl hl.1 rfl (Nat.le_of_ble_eq_true rfl) rfl dX6_pair_56 ⟨Nat.zero_le _, Nat.zero_le _⟩ (fun H locs hP hD hS => ?_)
              refine lv_iload hx hb dX6_pair_59 (lv_at hl 0 rfl) ?_
              refine lv_iload_n hx hb dX6_pair_61 rfl (lv_at hl 3 rfl) ?_
              refine lv_iload_n hx hb dX6_pair_62 rfl (lv_at hl 4 rfl) ?_
              obtain ⟨q_18, hq_18, hM⟩ := on_bind hM
              refine on_callS0 (rest := []) (As := [.int q_17, .int q_10, .int v2, .int v3]) (st1 := [.int q_18]) ⟨hx, hb, hml, hown, hts⟩ (k_X6_joined q_17 q_10 v2 v3 q_18 hq_18) (va_cwS 4 hts gX6_pair_X6_joined rfl rfl rfl hdX6_joined ⟨(Nat.le_of_ble_eq_true rfl), (Nat.le_of_ble_eq_true rfl)⟩) hK hN hP hD hS hA rfl hl.1 rfl (Nat.le_of_ble_eq_true rfl) rfl dX6_pair_63 ⟨Nat.zero_le _, Nat.zero_le _⟩ (fun H locs hP hS => ?_)
              refine lv_goto (tgt := 100) hx hb dX6_pair_66 (by decide) ?_
              have hM := Option.some.inj hM
              subst hM
              rw [← hQ]
              exact on_iret hx hb hr hlk hP hD hS dX6_pair_100
          · have hM := on_pos c_9 hM
            refine lv_bipush (v := -2) hx hb dX6_pair_40 (by decide) ?_
            have hM := Option.some.inj hM
            subst hM
            rw [← hQ]
            exact on_iret hx hb hr hlk hP hD hS dX6_pair_42
      · have hM := on_pos c_6 hM
        refine lv_iconst (v := -1) hx hb dX6_pair_23 (by decide) ?_
        have hM := Option.some.inj hM
        subst hM
        rw [← hQ]
        exact on_iret hx hb hr hlk hP hD hS dX6_pair_24
abbrev rm_X6_fewest : Room := { frames := 3, cells := 0, slots := 0, locals := 70 }
set_option maxHeartbeats 4000000 in
set_option maxRecDepth 100000 in
theorem k_X6_fewest {l : Launch} {D : va_G} {cI cJ cZ cS cA : ClassId} (h_t : Nat) (h_t_state : Nat) (h_t_images : Nat) (h_t_isKept : Nat) (h_t_pad : Nat) (h_t_row : Nat) (h_t_isUsed : Nat) (h_t_table : Nat) (t_said : Int32) (t_leastSize : Int32) (t_leastSet : Int32) (t_found : Int32) (t_rank : Int32) (t_determinant : Int64) (t_state : Nat → Int32) (v1 : Int32) (v2 : Int32) (out : Int32 × Int32 × Int32 × Int32) (hM : M_X6_fewest v1 v2 t_leastSize t_leastSet t_found t_state = some out) : on_Con l yX6_fewest wsX6_fewest rm_X6_fewest [.ref h_t, .int v1, .int v2] D (on_T cI cJ cZ cS cA) [(h_t, .inr (6, [.ref h_t_state, .ref h_t_images, .ref h_t_isKept, .ref h_t_pad, .int t_said, .int t_leastSize, .int t_leastSet, .int t_found, .ref h_t_row, .ref h_t_isUsed, .ref h_t_table, .int t_rank, .long t_determinant])), (h_t_state, .inl (cI, 4, .inl t_state))] (some (.int out.1)) [(h_t, .inr (6, [.ref h_t_state, .ref h_t_images, .ref h_t_isKept, .ref h_t_pad, .int t_said, .int out.2.1, .int out.2.2.1, .int out.2.2.2, .ref h_t_row, .ref h_t_isUsed, .ref h_t_table, .int t_rank, .long t_determinant])), (h_t_state, .inl (cI, 4, .inl t_state))] := by
  unfold M_X6_fewest at hM
  refine on_enter (cc := cX6_fewest) (nL := 5) (rt := (some .int)) (own := RX6) (by decide +kernel) rfl rfl (Nat.le_of_ble_eq_true rfl) ?_
  intro p e s m below meth c A ls hx hb hml hr hlk hts hown hA hK hN H locs hP hD hS hl
  have hl : lv_has ls 5 [(0, .ref h_t), (1, .int v1), (2, .int v2)] := hl
  generalize hQ : MQ below (on_Q D (some (.int out.1)) [(h_t, .inr (6, [.ref h_t_state, .ref h_t_images, .ref h_t_isKept, .ref h_t_pad, .int t_said, .int out.2.1, .int out.2.2.1, .int out.2.2.2, .ref h_t_row, .ref h_t_isUsed, .ref h_t_table, .int t_rank, .long t_determinant])), (h_t_state, .inl (cI, 4, .inl t_state))] A) _ s 0 0 A = Q
  generalize hAr : List.toArray ([.ref h_t, .int v1, .int v2] : List Value) = args at hts hQ ⊢
  have w1 := hts (.fieldLink RX6 137 "OddNetsModel" "leastSize" "I") (by decide +kernel)
  have w2 : ∀ w ∈ wsX60, w ∈ wsX6_fewest := by decide +kernel
  have w3 := hts (.fieldLink RX6 143 "OddNetsModel" "found" "I") (by decide +kernel)
  have w4 := hts (.fieldLink RX6 140 "OddNetsModel" "leastSet" "I") (by decide +kernel)
  have lp_29 : ∀ (v1 : Int32) (v2 : Int32), ∀ (n : Nat) (v3 : Int32) (t_leastSize : Int32) (t_leastSet : Int32) (t_found : Int32) (x : Int32 × Int32 × Int32), on_loop (fun (s : Int32 × Int32 × Int32 × Int32) => B_X6_fewest_29 v1 t_state s.1 s.2.1 s.2.2.1 s.2.2.2) n (v3, t_leastSize, t_leastSet, t_found) = some x → (∀ (H : Heap) (locs : List Loc), va_P D vwCl [(h_t, .inr (6, [.ref h_t_state, .ref h_t_images, .ref h_t_isKept, .ref h_t_pad, .int t_said, .int x.1, .int x.2.1, .int x.2.2, .ref h_t_row, .ref h_t_isUsed, .ref h_t_table, .int t_rank, .long t_determinant])), (h_t_state, .inl (cI, 4, .inl t_state))] H → va_D A [(h_t, .inr (6, [.ref h_t_state, .ref h_t_images, .ref h_t_isKept, .ref h_t_pad, .int t_said, .int x.1, .int x.2.1, .int x.2.2, .ref h_t_row, .ref h_t_isUsed, .ref h_t_table, .int t_rank, .long t_determinant])), (h_t_state, .inl (cI, 4, .inl t_state))] → va_S A s.heap H locs → ∀ ls : Array Slot, lv_has ls 5 [(0, .ref h_t), (2, .int v2)] → W p l e rm_X6_fewest s m args below meth c H locs 0 0 Q (F0 m 111 ls [])) → ∀ (H : Heap) (locs : List Loc), va_P D vwCl [(h_t, .inr (6, [.ref h_t_state, .ref h_t_images, .ref h_t_isKept, .ref h_t_pad, .int t_said, .int t_leastSize, .int t_leastSet, .int t_found, .ref h_t_row, .ref h_t_isUsed, .ref h_t_table, .int t_rank, .long t_determinant])), (h_t_state, .inl (cI, 4, .inl t_state))] H → va_D A [(h_t, .inr (6, [.ref h_t_state, .ref h_t_images, .ref h_t_isKept, .ref h_t_pad, .int t_said, .int t_leastSize, .int t_leastSet, .int t_found, .ref h_t_row, .ref h_t_isUsed, .ref h_t_table, .int t_rank, .long t_determinant])), (h_t_state, .inl (cI, 4, .inl t_state))] → va_S A s.heap H locs → ∀ ls : Array Slot, lv_has ls 5 [(0, .ref h_t), (1, .int v1), (2, .int v2), (3, .int v3)] → W p l e rm_X6_fewest s m args below meth c H locs 0 0 Q (F0 m 29 ls []) := by
    intro v1 v2
    intro n
    induction n with
    | zero =>
      intro v3 t_leastSize t_leastSet t_found x hL
      exact (on_loop0 hL).elim
    | succ n ih =>
      intro v3 t_leastSize t_leastSet t_found x hL K1 H locs hP hD hS ls hl
      obtain ⟨y, hM, hk⟩ := on_loopE hL
      have hM : B_X6_fewest_29 v1 t_state v3 t_leastSize t_leastSet t_found = some y := hM
      unfold B_X6_fewest_29 at hM
      refine lv_iload_n hx hb dX6_fewest_29 rfl (lv_at hl 3 rfl) ?_
      refine lv_iconst (v := 1) hx hb dX6_fewest_30 (by decide) ?_
      refine lv_aload_n hx hb dX6_fewest_31 rfl (lv_at hl 0 rfl) ?_
      obtain ⟨q_5, hq_5, hM⟩ := on_bind hM
      refine on_callV (rest := [.int (1 : Int32), .int v3]) (As := []) (st1 := [.int q_5, .int (1 : Int32), .int v3]) (C := RX6) (ci := 6) (q0 := 0) (wc := [(h_t, .inr (6, [.ref h_t_state, .ref h_t_images, .ref h_t_isKept, .ref h_t_pad, .int t_said, .int t_leastSize, .int t_leastSet, .int t_found, .ref h_t_row, .ref h_t_isUsed, .ref h_t_table, .int t_rank, .long t_determinant])), (h_t_state, .inl (cI, 4, .inl t_state))]) (wr := []) (wc' := [(h_t, .inr (6, [.ref h_t_state, .ref h_t_images, .ref h_t_isKept, .ref h_t_pad, .int t_said, .int t_leastSize, .int t_leastSet, .int t_found, .ref h_t_row, .ref h_t_isUsed, .ref h_t_table, .int t_rank, .long t_determinant])), (h_t_state, .inl (cI, 4, .inl t_state))]) (wf := [(h_t, .inr (6, [.ref h_t_state, .ref h_t_images, .ref h_t_isKept, .ref h_t_pad, .int t_said, .int t_leastSize, .int t_leastSet, .int t_found, .ref h_t_row, .ref h_t_isUsed, .ref h_t_table, .int t_rank, .long t_determinant])), (h_t_state, .inl (cI, 4, .inl t_state))]) (rt := (some (.int q_5))) ⟨hx, hb, hml, hown, hts⟩ (k_X6_many h_t h_t_state h_t_images h_t_isKept h_t_pad h_t_row h_t_isUsed h_t_table t_said t_leastSize t_leastSet t_found t_rank t_determinant t_state q_5 hq_5) (cwV 0 hts gX6_fewest_X6_many rfl rfl rfl ⟨rfl, hdX6_many⟩ ⟨(Nat.le_of_ble_eq_true rfl), (Nat.le_of_ble_eq_true rfl)⟩) hK hN hP hD hS hA [0, 1] [] [0, 1] rfl rfl rfl rfl (by decide) rfl rfl rfl rfl rfl rfl hl.1 rfl (Nat.le_of_ble_eq_true rfl) rfl dX6_fewest_32 ⟨Nat.zero_le _, Nat.zero_le _⟩ (fun H locs hP hD hS => ?_)
      refine lv_ishl hx hb dX6_fewest_35 ?_
      refine lv_icmp_ge (tgt := 111) hx hb dX6_fewest_36 (by decide) (fun c_6 => ?_) (fun c_6 => ?_)
      · have hM := on_pos c_6 hM
        have hk := on_nxR hM hk
        subst hk
        exact K1 _ _ hP hD hS ls (lv_sub hl [0, 2] rfl)
      · have hM := on_neg c_6 hM
        refine lv_aload_n hx hb dX6_fewest_39 rfl (lv_at hl 0 rfl) ?_
        obtain ⟨q_7, hq_7, hM⟩ := on_bind hM
        refine on_callV (rest := []) (As := []) (st1 := [.int q_7]) (C := RX6) (ci := 6) (q0 := 0) (wc := [(h_t, .inr (6, [.ref h_t_state, .ref h_t_images, .ref h_t_isKept, .ref h_t_pad, .int t_said, .int t_leastSize, .int t_leastSet, .int t_found, .ref h_t_row, .ref h_t_isUsed, .ref h_t_table, .int t_rank, .long t_determinant])), (h_t_state, .inl (cI, 4, .inl t_state))]) (wr := []) (wc' := [(h_t, .inr (6, [.ref h_t_state, .ref h_t_images, .ref h_t_isKept, .ref h_t_pad, .int t_said, .int t_leastSize, .int t_leastSet, .int t_found, .ref h_t_row, .ref h_t_isUsed, .ref h_t_table, .int t_rank, .long t_determinant])), (h_t_state, .inl (cI, 4, .inl t_state))]) (wf := [(h_t, .inr (6, [.ref h_t_state, .ref h_t_images, .ref h_t_isKept, .ref h_t_pad, .int t_said, .int t_leastSize, .int t_leastSet, .int t_found, .ref h_t_row, .ref h_t_isUsed, .ref h_t_table, .int t_rank, .long t_determinant])), (h_t_state, .inl (cI, 4, .inl t_state))]) (rt := (some (.int q_7))) ⟨hx, hb, hml, hown, hts⟩ (k_X6_many h_t h_t_state h_t_images h_t_isKept h_t_pad h_t_row h_t_isUsed h_t_table t_said t_leastSize t_leastSet t_found t_rank t_determinant t_state q_7 hq_7) (cwV 0 hts gX6_fewest_X6_many rfl rfl rfl ⟨rfl, hdX6_many⟩ ⟨(Nat.le_of_ble_eq_true rfl), (Nat.le_of_ble_eq_true rfl)⟩) hK hN hP hD hS hA [0, 1] [] [0, 1] rfl rfl rfl rfl (by decide) rfl rfl rfl rfl rfl rfl hl.1 rfl (Nat.le_of_ble_eq_true rfl) rfl dX6_fewest_40 ⟨Nat.zero_le _, Nat.zero_le _⟩ (fun H locs hP hD hS => ?_)
        refine lv_aload_n hx hb dX6_fewest_43 rfl (lv_at hl 0 rfl) ?_
        refine lv_iload_n hx hb dX6_fewest_44 rfl (lv_at hl 1 rfl) ?_
        obtain ⟨q_8, hq_8, hM⟩ := on_bind hM
        refine on_callV (rest := [.int q_7]) (As := [.int v1]) (st1 := [.int q_8, .int q_7]) (C := RX6) (ci := 6) (q0 := 0) (wc := [(h_t, .inr (6, [.ref h_t_state, .ref h_t_images, .ref h_t_isKept, .ref h_t_pad, .int t_said, .int t_leastSize, .int t_leastSet, .int t_found, .ref h_t_row, .ref h_t_isUsed, .ref h_t_table, .int t_rank, .long t_determinant])), (h_t_state, .inl (cI, 4, .inl t_state))]) (wr := []) (wc' := [(h_t, .inr (6, [.ref h_t_state, .ref h_t_images, .ref h_t_isKept, .ref h_t_pad, .int t_said, .int t_leastSize, .int t_leastSet, .int t_found, .ref h_t_row, .ref h_t_isUsed, .ref h_t_table, .int t_rank, .long t_determinant])), (h_t_state, .inl (cI, 4, .inl t_state))]) (wf := [(h_t, .inr (6, [.ref h_t_state, .ref h_t_images, .ref h_t_isKept, .ref h_t_pad, .int t_said, .int t_leastSize, .int t_leastSet, .int t_found, .ref h_t_row, .ref h_t_isUsed, .ref h_t_table, .int t_rank, .long t_determinant])), (h_t_state, .inl (cI, 4, .inl t_state))]) (rt := (some (.int q_8))) ⟨hx, hb, hml, hown, hts⟩ (k_X6_netOf h_t h_t_state h_t_images h_t_isKept h_t_pad h_t_row h_t_isUsed h_t_table t_said t_leastSize t_leastSet t_found t_rank t_determinant t_state v1 q_8 hq_8) (cwV 1 hts gX6_fewest_X6_netOf rfl rfl rfl ⟨rfl, hdX6_netOf⟩ ⟨(Nat.le_of_ble_eq_true rfl), (Nat.le_of_ble_eq_true rfl)⟩) hK hN hP hD hS hA [0, 1] [] [0, 1] rfl rfl rfl rfl (by decide) rfl rfl rfl rfl rfl rfl hl.1 rfl (Nat.le_of_ble_eq_true rfl) rfl dX6_fewest_45 ⟨Nat.zero_le _, Nat.zero_le _⟩ (fun H locs hP hD hS => ?_)
        refine lv_iload_n hx hb dX6_fewest_48 rfl (lv_at hl 3 rfl) ?_
        obtain ⟨q_9, hq_9, hM⟩ := on_bind hM
        refine on_callS0 (rest := []) (As := [.int q_7, .int q_8, .int v3]) (st1 := [.int q_9]) ⟨hx, hb, hml, hown, hts⟩ (k_X6_switched q_7 q_8 v3 q_9 hq_9) (va_cwS 3 hts gX6_fewest_X6_switched rfl rfl rfl hdX6_switched ⟨(Nat.le_of_ble_eq_true rfl), (Nat.le_of_ble_eq_true rfl)⟩) hK hN hP hD hS hA rfl hl.1 rfl (Nat.le_of_ble_eq_true rfl) rfl dX6_fewest_49 ⟨Nat.zero_le _, Nat.zero_le _⟩ (fun H locs hP hS => ?_)
        obtain ⟨q_10, hq_10, hM⟩ := on_bind hM
        refine on_callS0 (rest := []) (As := [.int q_9]) (st1 := [.int q_10]) ⟨hx, hb, hml, hown, hts⟩ (k_X6_size q_9 q_10 hq_10) (va_cwS 1 hts gX6_fewest_X6_size rfl rfl rfl hdX6_size ⟨(Nat.le_of_ble_eq_true rfl), (Nat.le_of_ble_eq_true rfl)⟩) hK hN hP hD hS hA rfl hl.1 rfl (Nat.le_of_ble_eq_true rfl) rfl dX6_fewest_52 ⟨Nat.zero_le _, Nat.zero_le _⟩ (fun H locs hP hS => ?_)
        refine lv_istore (lv' := [(4, .int q_10), (0, .ref h_t), (1, .int v1), (2, .int v2), (3, .int v3)]) hx hb dX6_fewest_55 hl (by decide) rfl (fun ls hl => ?_)
        refine lv_iload hx hb dX6_fewest_57 (lv_at hl 0 rfl) ?_
        refine lv_aload_n hx hb dX6_fewest_59 rfl (lv_at hl 1 rfl) ?_
        refine va_get (D := D) (ci := 6) (v := .int t_leastSize) (C := RX6) (T := TX6) (N := 13) hx hb hts w2 hown hK hP 0 rfl rfl 5 (by decide) w1 (fun _ h9 => h9) rfl dX6_fewest_60 ?_
        refine lv_icmp_ge (tgt := 82) hx hb dX6_fewest_63 (by decide) (fun c_11 => ?_) (fun c_11 => ?_)
        · have hM := on_pos c_11 hM
          refine lv_aload_n hx hb dX6_fewest_82 rfl (lv_at hl 1 rfl) ?_
          refine lv_dup hx hb dX6_fewest_83 rfl ?_
          refine va_get (D := D) (ci := 6) (v := .int t_found) (C := RX6) (T := TX6) (N := 13) hx hb hts w2 hown hK hP 0 rfl rfl 7 (by decide) w3 (fun _ h9 => h9) rfl dX6_fewest_84 ?_
          refine lv_iload hx hb dX6_fewest_87 (lv_at hl 0 rfl) ?_
          refine lv_aload_n hx hb dX6_fewest_89 rfl (lv_at hl 1 rfl) ?_
          refine va_get (D := D) (ci := 6) (v := .int t_leastSize) (C := RX6) (T := TX6) (N := 13) hx hb hts w2 hown hK hP 0 rfl rfl 5 (by decide) w1 (fun _ h9 => h9) rfl dX6_fewest_90 ?_
          refine lv_icmp_ne (tgt := 100) hx hb dX6_fewest_93 (by decide) (fun c_12 => ?_) (fun c_12 => ?_)
          · have hM := on_neg c_12 hM
            refine lv_iconst (v := 0) hx hb dX6_fewest_100 (by decide) ?_
            refine lv_iadd hx hb dX6_fewest_101 ?_
            refine lv_topi (fun t_found_13 et_found_13 => ?_)
            have hM := on_letE et_found_13 hM
            refine va_put (D := D) (ci := 6) (v := .int t_found_13) (ty := .int) (C := RX6) (T := TX6) (N := 13) hx hb hts w2 tyX6 tyX6_ok nmX6 hown hK hP hD hS 0 rfl rfl 7 (by decide) w3 (fun _ h9 => h9) rfl (by decide +kernel) rfl rfl (Nat.le_of_ble_eq_true rfl) dX6_fewest_102 (fun H locs hP hD hS => ?_)
            have hP : va_P D vwCl [(h_t, .inr (6, [.ref h_t_state, .ref h_t_images, .ref h_t_isKept, .ref h_t_pad, .int t_said, .int t_leastSize, .int t_leastSet, .int t_found_13, .ref h_t_row, .ref h_t_isUsed, .ref h_t_table, .int t_rank, .long t_determinant])), (h_t_state, .inl (cI, 4, .inl t_state))] H := hP
            have hD : va_D A [(h_t, .inr (6, [.ref h_t_state, .ref h_t_images, .ref h_t_isKept, .ref h_t_pad, .int t_said, .int t_leastSize, .int t_leastSet, .int t_found_13, .ref h_t_row, .ref h_t_isUsed, .ref h_t_table, .int t_rank, .long t_determinant])), (h_t_state, .inl (cI, 4, .inl t_state))] := hD
            obtain ⟨v3_14, ev3_14⟩ : ∃ z : Int32, z = v3 + 2 := ⟨_, rfl⟩
            have hM := on_letE ev3_14 hM
            refine lv_iinc (v := v3_14) (lv' := [(3, .int v3_14), (4, .int q_10), (0, .ref h_t), (1, .int v1), (2, .int v2)]) hx hb dX6_fewest_105 hl (k := 4) rfl (by rw [ev3_14]; rfl) (by decide) rfl (fun ls hl => ?_)
            refine lv_goto (tgt := 29) hx hb dX6_fewest_108 (by decide) ?_
            have hk := on_nxL hM hk
            exact ih v3_14 t_leastSize t_leastSet t_found_13 _ hk K1 _ _ hP hD hS ls (lv_sub hl [2, 3, 4, 0] rfl)
          · have hM := on_pos c_12 hM
            refine lv_iconst (v := 1) hx hb dX6_fewest_96 (by decide) ?_
            refine lv_goto (tgt := 101) hx hb dX6_fewest_97 (by decide) ?_
            refine lv_iadd hx hb dX6_fewest_101 ?_
            refine lv_topi (fun t_found_15 et_found_15 => ?_)
            have hM := on_letE et_found_15 hM
            refine va_put (D := D) (ci := 6) (v := .int t_found_15) (ty := .int) (C := RX6) (T := TX6) (N := 13) hx hb hts w2 tyX6 tyX6_ok nmX6 hown hK hP hD hS 0 rfl rfl 7 (by decide) w3 (fun _ h9 => h9) rfl (by decide +kernel) rfl rfl (Nat.le_of_ble_eq_true rfl) dX6_fewest_102 (fun H locs hP hD hS => ?_)
            have hP : va_P D vwCl [(h_t, .inr (6, [.ref h_t_state, .ref h_t_images, .ref h_t_isKept, .ref h_t_pad, .int t_said, .int t_leastSize, .int t_leastSet, .int t_found_15, .ref h_t_row, .ref h_t_isUsed, .ref h_t_table, .int t_rank, .long t_determinant])), (h_t_state, .inl (cI, 4, .inl t_state))] H := hP
            have hD : va_D A [(h_t, .inr (6, [.ref h_t_state, .ref h_t_images, .ref h_t_isKept, .ref h_t_pad, .int t_said, .int t_leastSize, .int t_leastSet, .int t_found_15, .ref h_t_row, .ref h_t_isUsed, .ref h_t_table, .int t_rank, .long t_determinant])), (h_t_state, .inl (cI, 4, .inl t_state))] := hD
            obtain ⟨v3_16, ev3_16⟩ : ∃ z : Int32, z = v3 + 2 := ⟨_, rfl⟩
            have hM := on_letE ev3_16 hM
            refine lv_iinc (v := v3_16) (lv' := [(3, .int v3_16), (4, .int q_10), (0, .ref h_t), (1, .int v1), (2, .int v2)]) hx hb dX6_fewest_105 hl (k := 4) rfl (by rw [ev3_16]; rfl) (by decide) rfl (fun ls hl => ?_)
            refine lv_goto (tgt := 29) hx hb dX6_fewest_108 (by decide) ?_
            have hk := on_nxL hM hk
            exact ih v3_16 t_leastSize t_leastSet t_found_15 _ hk K1 _ _ hP hD hS ls (lv_sub hl [2, 3, 4, 0] rfl)
        · have hM := on_neg c_11 hM
          refine lv_aload_n hx hb dX6_fewest_66 rfl (lv_at hl 1 rfl) ?_
          refine lv_iload hx hb dX6_fewest_67 (lv_at hl 0 rfl) ?_
          refine va_put (D := D) (ci := 6) (v := .int q_10) (ty := .int) (C := RX6) (T := TX6) (N := 13) hx hb hts w2 tyX6 tyX6_ok nmX6 hown hK hP hD hS 0 rfl rfl 5 (by decide) w1 (fun _ h9 => h9) rfl (by decide +kernel) rfl rfl (Nat.le_of_ble_eq_true rfl) dX6_fewest_69 (fun H locs hP hD hS => ?_)
          have hP : va_P D vwCl [(h_t, .inr (6, [.ref h_t_state, .ref h_t_images, .ref h_t_isKept, .ref h_t_pad, .int t_said, .int q_10, .int t_leastSet, .int t_found, .ref h_t_row, .ref h_t_isUsed, .ref h_t_table, .int t_rank, .long t_determinant])), (h_t_state, .inl (cI, 4, .inl t_state))] H := hP
          have hD : va_D A [(h_t, .inr (6, [.ref h_t_state, .ref h_t_images, .ref h_t_isKept, .ref h_t_pad, .int t_said, .int q_10, .int t_leastSet, .int t_found, .ref h_t_row, .ref h_t_isUsed, .ref h_t_table, .int t_rank, .long t_determinant])), (h_t_state, .inl (cI, 4, .inl t_state))] := hD
          refine lv_aload_n hx hb dX6_fewest_72 rfl (lv_at hl 1 rfl) ?_
          refine lv_iload_n hx hb dX6_fewest_73 rfl (lv_at hl 4 rfl) ?_
          refine va_put (D := D) (ci := 6) (v := .int v3) (ty := .int) (C := RX6) (T := TX6) (N := 13) hx hb hts w2 tyX6 tyX6_ok nmX6 hown hK hP hD hS 0 rfl rfl 6 (by decide) w4 (fun _ h9 => h9) rfl (by decide +kernel) rfl rfl (Nat.le_of_ble_eq_true rfl) dX6_fewest_74 (fun H locs hP hD hS => ?_)
          have hP : va_P D vwCl [(h_t, .inr (6, [.ref h_t_state, .ref h_t_images, .ref h_t_isKept, .ref h_t_pad, .int t_said, .int q_10, .int v3, .int t_found, .ref h_t_row, .ref h_t_isUsed, .ref h_t_table, .int t_rank, .long t_determinant])), (h_t_state, .inl (cI, 4, .inl t_state))] H := hP
          have hD : va_D A [(h_t, .inr (6, [.ref h_t_state, .ref h_t_images, .ref h_t_isKept, .ref h_t_pad, .int t_said, .int q_10, .int v3, .int t_found, .ref h_t_row, .ref h_t_isUsed, .ref h_t_table, .int t_rank, .long t_determinant])), (h_t_state, .inl (cI, 4, .inl t_state))] := hD
          refine lv_aload_n hx hb dX6_fewest_77 rfl (lv_at hl 1 rfl) ?_
          refine lv_iconst (v := 0) hx hb dX6_fewest_78 (by decide) ?_
          refine va_put (D := D) (ci := 6) (v := .int (0 : Int32)) (ty := .int) (C := RX6) (T := TX6) (N := 13) hx hb hts w2 tyX6 tyX6_ok nmX6 hown hK hP hD hS 0 rfl rfl 7 (by decide) w3 (fun _ h9 => h9) rfl (by decide +kernel) rfl rfl (Nat.le_of_ble_eq_true rfl) dX6_fewest_79 (fun H locs hP hD hS => ?_)
          have hP : va_P D vwCl [(h_t, .inr (6, [.ref h_t_state, .ref h_t_images, .ref h_t_isKept, .ref h_t_pad, .int t_said, .int q_10, .int v3, .int (0 : Int32), .ref h_t_row, .ref h_t_isUsed, .ref h_t_table, .int t_rank, .long t_determinant])), (h_t_state, .inl (cI, 4, .inl t_state))] H := hP
          have hD : va_D A [(h_t, .inr (6, [.ref h_t_state, .ref h_t_images, .ref h_t_isKept, .ref h_t_pad, .int t_said, .int q_10, .int v3, .int (0 : Int32), .ref h_t_row, .ref h_t_isUsed, .ref h_t_table, .int t_rank, .long t_determinant])), (h_t_state, .inl (cI, 4, .inl t_state))] := hD
          refine lv_aload_n hx hb dX6_fewest_82 rfl (lv_at hl 1 rfl) ?_
          refine lv_dup hx hb dX6_fewest_83 rfl ?_
          refine va_get (D := D) (ci := 6) (v := .int (0 : Int32)) (C := RX6) (T := TX6) (N := 13) hx hb hts w2 hown hK hP 0 rfl rfl 7 (by decide) w3 (fun _ h9 => h9) rfl dX6_fewest_84 ?_
          refine lv_iload hx hb dX6_fewest_87 (lv_at hl 0 rfl) ?_
          refine lv_aload_n hx hb dX6_fewest_89 rfl (lv_at hl 1 rfl) ?_
          refine va_get (D := D) (ci := 6) (v := .int q_10) (C := RX6) (T := TX6) (N := 13) hx hb hts w2 hown hK hP 0 rfl rfl 5 (by decide) w1 (fun _ h9 => h9) rfl dX6_fewest_90 ?_
          refine lv_icmp_ne (tgt := 100) hx hb dX6_fewest_93 (by decide) (fun c_17 => ?_) (fun c_17 => ?_)
          · have hM := on_neg c_17 hM
            refine lv_iconst (v := 0) hx hb dX6_fewest_100 (by decide) ?_
            refine lv_iadd hx hb dX6_fewest_101 ?_
            refine lv_topi (fun t_found_18 et_found_18 => ?_)
            have hM := on_letE et_found_18 hM
            refine va_put (D := D) (ci := 6) (v := .int t_found_18) (ty := .int) (C := RX6) (T := TX6) (N := 13) hx hb hts w2 tyX6 tyX6_ok nmX6 hown hK hP hD hS 0 rfl rfl 7 (by decide) w3 (fun _ h9 => h9) rfl (by decide +kernel) rfl rfl (Nat.le_of_ble_eq_true rfl) dX6_fewest_102 (fun H locs hP hD hS => ?_)
            have hP : va_P D vwCl [(h_t, .inr (6, [.ref h_t_state, .ref h_t_images, .ref h_t_isKept, .ref h_t_pad, .int t_said, .int q_10, .int v3, .int t_found_18, .ref h_t_row, .ref h_t_isUsed, .ref h_t_table, .int t_rank, .long t_determinant])), (h_t_state, .inl (cI, 4, .inl t_state))] H := hP
            have hD : va_D A [(h_t, .inr (6, [.ref h_t_state, .ref h_t_images, .ref h_t_isKept, .ref h_t_pad, .int t_said, .int q_10, .int v3, .int t_found_18, .ref h_t_row, .ref h_t_isUsed, .ref h_t_table, .int t_rank, .long t_determinant])), (h_t_state, .inl (cI, 4, .inl t_state))] := hD
            obtain ⟨v3_19, ev3_19⟩ : ∃ z : Int32, z = v3 + 2 := ⟨_, rfl⟩
            have hM := on_letE ev3_19 hM
            refine lv_iinc (v := v3_19) (lv' := [(3, .int v3_19), (4, .int q_10), (0, .ref h_t), (1, .int v1), (2, .int v2)]) hx hb dX6_fewest_105 hl (k := 4) rfl (by rw [ev3_19]; rfl) (by decide) rfl (fun ls hl => ?_)
            refine lv_goto (tgt := 29) hx hb dX6_fewest_108 (by decide) ?_
            have hk := on_nxL hM hk
            exact ih v3_19 q_10 v3 t_found_18 _ hk K1 _ _ hP hD hS ls (lv_sub hl [2, 3, 4, 0] rfl)
          · have hM := on_pos c_17 hM
            refine lv_iconst (v := 1) hx hb dX6_fewest_96 (by decide) ?_
            refine lv_goto (tgt := 101) hx hb dX6_fewest_97 (by decide) ?_
            refine lv_iadd hx hb dX6_fewest_101 ?_
            refine lv_topi (fun t_found_20 et_found_20 => ?_)
            have hM := on_letE et_found_20 hM
            refine va_put (D := D) (ci := 6) (v := .int t_found_20) (ty := .int) (C := RX6) (T := TX6) (N := 13) hx hb hts w2 tyX6 tyX6_ok nmX6 hown hK hP hD hS 0 rfl rfl 7 (by decide) w3 (fun _ h9 => h9) rfl (by decide +kernel) rfl rfl (Nat.le_of_ble_eq_true rfl) dX6_fewest_102 (fun H locs hP hD hS => ?_)
            have hP : va_P D vwCl [(h_t, .inr (6, [.ref h_t_state, .ref h_t_images, .ref h_t_isKept, .ref h_t_pad, .int t_said, .int q_10, .int v3, .int t_found_20, .ref h_t_row, .ref h_t_isUsed, .ref h_t_table, .int t_rank, .long t_determinant])), (h_t_state, .inl (cI, 4, .inl t_state))] H := hP
            have hD : va_D A [(h_t, .inr (6, [.ref h_t_state, .ref h_t_images, .ref h_t_isKept, .ref h_t_pad, .int t_said, .int q_10, .int v3, .int t_found_20, .ref h_t_row, .ref h_t_isUsed, .ref h_t_table, .int t_rank, .long t_determinant])), (h_t_state, .inl (cI, 4, .inl t_state))] := hD
            obtain ⟨v3_21, ev3_21⟩ : ∃ z : Int32, z = v3 + 2 := ⟨_, rfl⟩
            have hM := on_letE ev3_21 hM
            refine lv_iinc (v := v3_21) (lv' := [(3, .int v3_21), (4, .int q_10), (0, .ref h_t), (1, .int v1), (2, .int v2)]) hx hb dX6_fewest_105 hl (k := 4) rfl (by rw [ev3_21]; rfl) (by decide) rfl (fun ls hl => ?_)
            refine lv_goto (tgt := 29) hx hb dX6_fewest_108 (by decide) ?_
            have hk := on_nxL hM hk
            exact ih v3_21 q_10 v3 t_found_20 _ hk K1 _ _ hP hD hS ls (lv_sub hl [2, 3, 4, 0] rfl)
  refine lv_iload_n hx hb dX6_fewest_0 rfl (lv_at hl 1 rfl) ?_
  obtain ⟨q_1, hq_1, hM⟩ := on_bind hM
  refine on_callS0 (rest := []) (As := [.int v1]) (st1 := [.int q_1]) ⟨hx, hb, hml, hown, hts⟩ (k_X6_isSlot v1 q_1 hq_1) (va_cwS 1 hts gX6_fewest_X6_isSlot rfl rfl rfl hdX6_isSlot ⟨(Nat.le_of_ble_eq_true rfl), (Nat.le_of_ble_eq_true rfl)⟩) hK hN hP hD hS hA rfl hl.1 rfl (Nat.le_of_ble_eq_true rfl) rfl dX6_fewest_1 ⟨Nat.zero_le _, Nat.zero_le _⟩ (fun H locs hP hS => ?_)
  refine lv_if_ne (tgt := 9) hx hb dX6_fewest_4 (by decide) (fun c_2 => ?_) (fun c_2 => ?_)
  · have hM := on_neg c_2 hM
    refine lv_iload_n hx hb dX6_fewest_9 rfl (lv_at hl 2 rfl) ?_
    refine lv_iconst (v := 0) hx hb dX6_fewest_10 (by decide) ?_
    refine lv_iconst (v := 2) hx hb dX6_fewest_11 (by decide) ?_
    obtain ⟨q_3, hq_3, hM⟩ := on_bind hM
    refine on_callS0 (rest := []) (As := [.int v2, .int (0 : Int32), .int (2 : Int32)]) (st1 := [.int q_3]) ⟨hx, hb, hml, hown, hts⟩ (k_X6_in v2 (0 : Int32) (2 : Int32) q_3 hq_3) (va_cwS 3 hts gX6_fewest_X6_in rfl rfl rfl hdX6_in ⟨(Nat.le_of_ble_eq_true rfl), (Nat.le_of_ble_eq_true rfl)⟩) hK hN hP hD hS hA rfl hl.1 rfl (Nat.le_of_ble_eq_true rfl) rfl dX6_fewest_12 ⟨Nat.zero_le _, Nat.zero_le _⟩ (fun H locs hP hS => ?_)
    refine lv_if_ne (tgt := 21) hx hb dX6_fewest_15 (by decide) (fun c_4 => ?_) (fun c_4 => ?_)
    · have hM := on_neg c_4 hM
      refine lv_aload_n hx hb dX6_fewest_21 rfl (lv_at hl 0 rfl) ?_
      refine lv_bipush (v := 99) hx hb dX6_fewest_22 (by decide) ?_
      refine va_put (D := D) (ci := 6) (v := .int (99 : Int32)) (ty := .int) (C := RX6) (T := TX6) (N := 13) hx hb hts w2 tyX6 tyX6_ok nmX6 hown hK hP hD hS 0 rfl rfl 5 (by decide) w1 (fun _ h9 => h9) rfl (by decide +kernel) rfl rfl (Nat.le_of_ble_eq_true rfl) dX6_fewest_24 (fun H locs hP hD hS => ?_)
      have hP : va_P D vwCl [(h_t, .inr (6, [.ref h_t_state, .ref h_t_images, .ref h_t_isKept, .ref h_t_pad, .int t_said, .int (99 : Int32), .int t_leastSet, .int t_found, .ref h_t_row, .ref h_t_isUsed, .ref h_t_table, .int t_rank, .long t_determinant])), (h_t_state, .inl (cI, 4, .inl t_state))] H := hP
      have hD : va_D A [(h_t, .inr (6, [.ref h_t_state, .ref h_t_images, .ref h_t_isKept, .ref h_t_pad, .int t_said, .int (99 : Int32), .int t_leastSet, .int t_found, .ref h_t_row, .ref h_t_isUsed, .ref h_t_table, .int t_rank, .long t_determinant])), (h_t_state, .inl (cI, 4, .inl t_state))] := hD
      refine lv_iconst (v := 0) hx hb dX6_fewest_27 (by decide) ?_
      refine lv_istore_n (lv' := [(3, .int (0 : Int32)), (0, .ref h_t), (1, .int v1), (2, .int v2)]) hx hb dX6_fewest_28 rfl hl (by decide) rfl (fun ls hl => ?_)
      obtain ⟨q_22, hq_22, hM⟩ := on_bind hM
      refine lp_29 v1 v2 on_F (0 : Int32) (99 : Int32) t_leastSet t_found q_22 hq_22 (fun H locs hP hD hS ls hl => ?_) H locs hP hD hS ls (lv_sub hl [1, 2, 3, 0] rfl)
      refine lv_iload_n hx hb dX6_fewest_111 rfl (lv_at hl 1 rfl) ?_
      refine lv_if_ne (tgt := 122) hx hb dX6_fewest_112 (by decide) (fun c_23 => ?_) (fun c_23 => ?_)
      · have hM := on_neg c_23 hM
        refine lv_iload_n hx hb dX6_fewest_122 rfl (lv_at hl 1 rfl) ?_
        refine lv_iconst (v := 1) hx hb dX6_fewest_123 (by decide) ?_
        refine lv_icmp_ne (tgt := 134) hx hb dX6_fewest_124 (by decide) (fun c_24 => ?_) (fun c_24 => ?_)
        · have hM := on_neg c_24 hM
          refine lv_aload_n hx hb dX6_fewest_134 rfl (lv_at hl 0 rfl) ?_
          refine va_get (D := D) (ci := 6) (v := .int q_22.2.2) (C := RX6) (T := TX6) (N := 13) hx hb hts w2 hown hK hP 0 rfl rfl 7 (by decide) w3 (fun _ h9 => h9) rfl dX6_fewest_135 ?_
          have hM := Option.some.inj hM
          subst hM
          rw [← hQ]
          exact on_iret hx hb hr hlk hP hD hS dX6_fewest_138
        · have hM := on_pos c_24 hM
          refine lv_aload_n hx hb dX6_fewest_127 rfl (lv_at hl 0 rfl) ?_
          refine va_get (D := D) (ci := 6) (v := .int q_22.2.1) (C := RX6) (T := TX6) (N := 13) hx hb hts w2 hown hK hP 0 rfl rfl 6 (by decide) w4 (fun _ h9 => h9) rfl dX6_fewest_128 ?_
          refine lv_goto (tgt := 138) hx hb dX6_fewest_131 (by decide) ?_
          have hM := Option.some.inj hM
          subst hM
          rw [← hQ]
          exact on_iret hx hb hr hlk hP hD hS dX6_fewest_138
      · have hM := on_pos c_23 hM
        refine lv_aload_n hx hb dX6_fewest_115 rfl (lv_at hl 0 rfl) ?_
        refine va_get (D := D) (ci := 6) (v := .int q_22.1) (C := RX6) (T := TX6) (N := 13) hx hb hts w2 hown hK hP 0 rfl rfl 5 (by decide) w1 (fun _ h9 => h9) rfl dX6_fewest_116 ?_
        refine lv_goto (tgt := 138) hx hb dX6_fewest_119 (by decide) ?_
        have hM := Option.some.inj hM
        subst hM
        rw [← hQ]
        exact on_iret hx hb hr hlk hP hD hS dX6_fewest_138
    · have hM := on_pos c_4 hM
      refine lv_bipush (v := -2) hx hb dX6_fewest_18 (by decide) ?_
      have hM := Option.some.inj hM
      subst hM
      rw [← hQ]
      exact on_iret hx hb hr hlk hP hD hS dX6_fewest_20
  · have hM := on_pos c_2 hM
    refine lv_iconst (v := -1) hx hb dX6_fewest_7 (by decide) ?_
    have hM := Option.some.inj hM
    subst hM
    rw [← hQ]
    exact on_iret hx hb hr hlk hP hD hS dX6_fewest_8
abbrev rm_X6_beginFound : Room := { frames := 0, cells := 0, slots := 0, locals := 0 }
set_option maxHeartbeats 4000000 in
set_option maxRecDepth 100000 in
theorem k_X6_beginFound {l : Launch} {D : va_G} {cI cJ cZ cS cA : ClassId} (h_t : Nat) (h_t_state : Nat) (h_t_images : Nat) (h_t_isKept : Nat) (h_t_pad : Nat) (h_t_row : Nat) (h_t_isUsed : Nat) (h_t_table : Nat) (t_said : Int32) (t_leastSize : Int32) (t_leastSet : Int32) (t_found : Int32) (t_rank : Int32) (t_determinant : Int64)  (out : Int32 × Int32) (hM : M_X6_beginFound  = some out) : on_Con l yX6_beginFound wsX6_beginFound rm_X6_beginFound [.ref h_t] D (on_T cI cJ cZ cS cA) [(h_t, .inr (6, [.ref h_t_state, .ref h_t_images, .ref h_t_isKept, .ref h_t_pad, .int t_said, .int t_leastSize, .int t_leastSet, .int t_found, .ref h_t_row, .ref h_t_isUsed, .ref h_t_table, .int t_rank, .long t_determinant]))] none [(h_t, .inr (6, [.ref h_t_state, .ref h_t_images, .ref h_t_isKept, .ref h_t_pad, .int t_said, .int t_leastSize, .int out.1, .int out.2, .ref h_t_row, .ref h_t_isUsed, .ref h_t_table, .int t_rank, .long t_determinant]))] := by
  unfold M_X6_beginFound at hM
  refine on_enter (cc := cX6_beginFound) (nL := 1) (rt := none) (own := RX6) (by decide +kernel) rfl rfl (Nat.le_of_ble_eq_true rfl) ?_
  intro p e s m below meth c A ls hx hb hml hr hlk hts hown hA hK hN H locs hP hD hS hl
  have hl : lv_has ls 1 [(0, .ref h_t)] := hl
  generalize hQ : MQ below (on_Q D none [(h_t, .inr (6, [.ref h_t_state, .ref h_t_images, .ref h_t_isKept, .ref h_t_pad, .int t_said, .int t_leastSize, .int out.1, .int out.2, .ref h_t_row, .ref h_t_isUsed, .ref h_t_table, .int t_rank, .long t_determinant]))] A) _ s 0 0 A = Q
  generalize hAr : List.toArray ([.ref h_t] : List Value) = args at hts hQ ⊢
  have w1 := hts (.fieldLink RX6 143 "OddNetsModel" "found" "I") (by decide +kernel)
  have w2 : ∀ w ∈ wsX60, w ∈ wsX6_beginFound := by decide +kernel
  have w3 := hts (.fieldLink RX6 140 "OddNetsModel" "leastSet" "I") (by decide +kernel)
  refine lv_aload_n hx hb dX6_beginFound_0 rfl (lv_at hl 0 rfl) ?_
  refine lv_iconst (v := 0) hx hb dX6_beginFound_1 (by decide) ?_
  refine va_put (D := D) (ci := 6) (v := .int (0 : Int32)) (ty := .int) (C := RX6) (T := TX6) (N := 13) hx hb hts w2 tyX6 tyX6_ok nmX6 hown hK hP hD hS 0 rfl rfl 7 (by decide) w1 (fun _ h9 => h9) rfl (by decide +kernel) rfl rfl (Nat.le_of_ble_eq_true rfl) dX6_beginFound_2 (fun H locs hP hD hS => ?_)
  have hP : va_P D vwCl [(h_t, .inr (6, [.ref h_t_state, .ref h_t_images, .ref h_t_isKept, .ref h_t_pad, .int t_said, .int t_leastSize, .int t_leastSet, .int (0 : Int32), .ref h_t_row, .ref h_t_isUsed, .ref h_t_table, .int t_rank, .long t_determinant]))] H := hP
  have hD : va_D A [(h_t, .inr (6, [.ref h_t_state, .ref h_t_images, .ref h_t_isKept, .ref h_t_pad, .int t_said, .int t_leastSize, .int t_leastSet, .int (0 : Int32), .ref h_t_row, .ref h_t_isUsed, .ref h_t_table, .int t_rank, .long t_determinant]))] := hD
  refine lv_aload_n hx hb dX6_beginFound_5 rfl (lv_at hl 0 rfl) ?_
  refine lv_bipush (v := -6) hx hb dX6_beginFound_6 (by decide) ?_
  refine va_put (D := D) (ci := 6) (v := .int (-6 : Int32)) (ty := .int) (C := RX6) (T := TX6) (N := 13) hx hb hts w2 tyX6 tyX6_ok nmX6 hown hK hP hD hS 0 rfl rfl 6 (by decide) w3 (fun _ h9 => h9) rfl (by decide +kernel) rfl rfl (Nat.le_of_ble_eq_true rfl) dX6_beginFound_8 (fun H locs hP hD hS => ?_)
  have hP : va_P D vwCl [(h_t, .inr (6, [.ref h_t_state, .ref h_t_images, .ref h_t_isKept, .ref h_t_pad, .int t_said, .int t_leastSize, .int (-6 : Int32), .int (0 : Int32), .ref h_t_row, .ref h_t_isUsed, .ref h_t_table, .int t_rank, .long t_determinant]))] H := hP
  have hD : va_D A [(h_t, .inr (6, [.ref h_t_state, .ref h_t_images, .ref h_t_isKept, .ref h_t_pad, .int t_said, .int t_leastSize, .int (-6 : Int32), .int (0 : Int32), .ref h_t_row, .ref h_t_isUsed, .ref h_t_table, .int t_rank, .long t_determinant]))] := hD
  have hM := Option.some.inj hM
  subst hM
  rw [← hQ]
  exact on_vret hx hb hr hlk hP hD hS dX6_beginFound_11
abbrev rm_X6_find : Room := { frames := 0, cells := 0, slots := 0, locals := 0 }
set_option maxHeartbeats 4000000 in
set_option maxRecDepth 100000 in
theorem k_X6_find {l : Launch} {D : va_G} {cI cJ cZ cS cA : ClassId} (h_t : Nat) (h_t_state : Nat) (h_t_images : Nat) (h_t_isKept : Nat) (h_t_pad : Nat) (h_t_row : Nat) (h_t_isUsed : Nat) (h_t_table : Nat) (t_said : Int32) (t_leastSize : Int32) (t_leastSet : Int32) (t_found : Int32) (t_rank : Int32) (t_determinant : Int64) (v1 : Int32) (out : Int32 × Int32) (hM : M_X6_find v1 t_leastSet t_found = some out) : on_Con l yX6_find wsX6_find rm_X6_find [.ref h_t, .int v1] D (on_T cI cJ cZ cS cA) [(h_t, .inr (6, [.ref h_t_state, .ref h_t_images, .ref h_t_isKept, .ref h_t_pad, .int t_said, .int t_leastSize, .int t_leastSet, .int t_found, .ref h_t_row, .ref h_t_isUsed, .ref h_t_table, .int t_rank, .long t_determinant]))] none [(h_t, .inr (6, [.ref h_t_state, .ref h_t_images, .ref h_t_isKept, .ref h_t_pad, .int t_said, .int t_leastSize, .int out.1, .int out.2, .ref h_t_row, .ref h_t_isUsed, .ref h_t_table, .int t_rank, .long t_determinant]))] := by
  unfold M_X6_find at hM
  refine on_enter (cc := cX6_find) (nL := 2) (rt := none) (own := RX6) (by decide +kernel) rfl rfl (Nat.le_of_ble_eq_true rfl) ?_
  intro p e s m below meth c A ls hx hb hml hr hlk hts hown hA hK hN H locs hP hD hS hl
  have hl : lv_has ls 2 [(0, .ref h_t), (1, .int v1)] := hl
  generalize hQ : MQ below (on_Q D none [(h_t, .inr (6, [.ref h_t_state, .ref h_t_images, .ref h_t_isKept, .ref h_t_pad, .int t_said, .int t_leastSize, .int out.1, .int out.2, .ref h_t_row, .ref h_t_isUsed, .ref h_t_table, .int t_rank, .long t_determinant]))] A) _ s 0 0 A = Q
  generalize hAr : List.toArray ([.ref h_t, .int v1] : List Value) = args at hts hQ ⊢
  have w1 := hts (.fieldLink RX6 143 "OddNetsModel" "found" "I") (by decide +kernel)
  have w2 : ∀ w ∈ wsX60, w ∈ wsX6_find := by decide +kernel
  have w3 := hts (.fieldLink RX6 140 "OddNetsModel" "leastSet" "I") (by decide +kernel)
  refine lv_aload_n hx hb dX6_find_0 rfl (lv_at hl 0 rfl) ?_
  refine lv_aload_n hx hb dX6_find_1 rfl (lv_at hl 0 rfl) ?_
  refine va_get (D := D) (ci := 6) (v := .int t_found) (C := RX6) (T := TX6) (N := 13) hx hb hts w2 hown hK hP 0 rfl rfl 7 (by decide) w1 (fun _ h9 => h9) rfl dX6_find_2 ?_
  refine lv_if_ne (tgt := 12) hx hb dX6_find_5 (by decide) (fun c_1 => ?_) (fun c_1 => ?_)
  · have hM := on_neg c_1 hM
    refine lv_aload_n hx hb dX6_find_12 rfl (lv_at hl 0 rfl) ?_
    refine va_get (D := D) (ci := 6) (v := .int t_leastSet) (C := RX6) (T := TX6) (N := 13) hx hb hts w2 hown hK hP 0 rfl rfl 6 (by decide) w3 (fun _ h9 => h9) rfl dX6_find_13 ?_
    refine va_put (D := D) (ci := 6) (v := .int t_leastSet) (ty := .int) (C := RX6) (T := TX6) (N := 13) hx hb hts w2 tyX6 tyX6_ok nmX6 hown hK hP hD hS 0 rfl rfl 6 (by decide) w3 (fun _ h9 => h9) rfl (by decide +kernel) rfl rfl (Nat.le_of_ble_eq_true rfl) dX6_find_16 (fun H locs hP hD hS => ?_)
    have hP : va_P D vwCl [(h_t, .inr (6, [.ref h_t_state, .ref h_t_images, .ref h_t_isKept, .ref h_t_pad, .int t_said, .int t_leastSize, .int t_leastSet, .int t_found, .ref h_t_row, .ref h_t_isUsed, .ref h_t_table, .int t_rank, .long t_determinant]))] H := hP
    have hD : va_D A [(h_t, .inr (6, [.ref h_t_state, .ref h_t_images, .ref h_t_isKept, .ref h_t_pad, .int t_said, .int t_leastSize, .int t_leastSet, .int t_found, .ref h_t_row, .ref h_t_isUsed, .ref h_t_table, .int t_rank, .long t_determinant]))] := hD
    refine lv_aload_n hx hb dX6_find_19 rfl (lv_at hl 0 rfl) ?_
    refine lv_dup hx hb dX6_find_20 rfl ?_
    refine va_get (D := D) (ci := 6) (v := .int t_found) (C := RX6) (T := TX6) (N := 13) hx hb hts w2 hown hK hP 0 rfl rfl 7 (by decide) w1 (fun _ h9 => h9) rfl dX6_find_21 ?_
    refine lv_iconst (v := 1) hx hb dX6_find_24 (by decide) ?_
    refine lv_iadd hx hb dX6_find_25 ?_
    refine lv_topi (fun t_found_2 et_found_2 => ?_)
    have hM := on_letE et_found_2 hM
    refine va_put (D := D) (ci := 6) (v := .int t_found_2) (ty := .int) (C := RX6) (T := TX6) (N := 13) hx hb hts w2 tyX6 tyX6_ok nmX6 hown hK hP hD hS 0 rfl rfl 7 (by decide) w1 (fun _ h9 => h9) rfl (by decide +kernel) rfl rfl (Nat.le_of_ble_eq_true rfl) dX6_find_26 (fun H locs hP hD hS => ?_)
    have hP : va_P D vwCl [(h_t, .inr (6, [.ref h_t_state, .ref h_t_images, .ref h_t_isKept, .ref h_t_pad, .int t_said, .int t_leastSize, .int t_leastSet, .int t_found_2, .ref h_t_row, .ref h_t_isUsed, .ref h_t_table, .int t_rank, .long t_determinant]))] H := hP
    have hD : va_D A [(h_t, .inr (6, [.ref h_t_state, .ref h_t_images, .ref h_t_isKept, .ref h_t_pad, .int t_said, .int t_leastSize, .int t_leastSet, .int t_found_2, .ref h_t_row, .ref h_t_isUsed, .ref h_t_table, .int t_rank, .long t_determinant]))] := hD
    have hM := Option.some.inj hM
    subst hM
    rw [← hQ]
    exact on_vret hx hb hr hlk hP hD hS dX6_find_29
  · have hM := on_pos c_1 hM
    refine lv_iload_n hx hb dX6_find_8 rfl (lv_at hl 1 rfl) ?_
    refine lv_goto (tgt := 16) hx hb dX6_find_9 (by decide) ?_
    refine va_put (D := D) (ci := 6) (v := .int v1) (ty := .int) (C := RX6) (T := TX6) (N := 13) hx hb hts w2 tyX6 tyX6_ok nmX6 hown hK hP hD hS 0 rfl rfl 6 (by decide) w3 (fun _ h9 => h9) rfl (by decide +kernel) rfl rfl (Nat.le_of_ble_eq_true rfl) dX6_find_16 (fun H locs hP hD hS => ?_)
    have hP : va_P D vwCl [(h_t, .inr (6, [.ref h_t_state, .ref h_t_images, .ref h_t_isKept, .ref h_t_pad, .int t_said, .int t_leastSize, .int v1, .int t_found, .ref h_t_row, .ref h_t_isUsed, .ref h_t_table, .int t_rank, .long t_determinant]))] H := hP
    have hD : va_D A [(h_t, .inr (6, [.ref h_t_state, .ref h_t_images, .ref h_t_isKept, .ref h_t_pad, .int t_said, .int t_leastSize, .int v1, .int t_found, .ref h_t_row, .ref h_t_isUsed, .ref h_t_table, .int t_rank, .long t_determinant]))] := hD
    refine lv_aload_n hx hb dX6_find_19 rfl (lv_at hl 0 rfl) ?_
    refine lv_dup hx hb dX6_find_20 rfl ?_
    refine va_get (D := D) (ci := 6) (v := .int t_found) (C := RX6) (T := TX6) (N := 13) hx hb hts w2 hown hK hP 0 rfl rfl 7 (by decide) w1 (fun _ h9 => h9) rfl dX6_find_21 ?_
    refine lv_iconst (v := 1) hx hb dX6_find_24 (by decide) ?_
    refine lv_iadd hx hb dX6_find_25 ?_
    refine lv_topi (fun t_found_3 et_found_3 => ?_)
    have hM := on_letE et_found_3 hM
    refine va_put (D := D) (ci := 6) (v := .int t_found_3) (ty := .int) (C := RX6) (T := TX6) (N := 13) hx hb hts w2 tyX6 tyX6_ok nmX6 hown hK hP hD hS 0 rfl rfl 7 (by decide) w1 (fun _ h9 => h9) rfl (by decide +kernel) rfl rfl (Nat.le_of_ble_eq_true rfl) dX6_find_26 (fun H locs hP hD hS => ?_)
    have hP : va_P D vwCl [(h_t, .inr (6, [.ref h_t_state, .ref h_t_images, .ref h_t_isKept, .ref h_t_pad, .int t_said, .int t_leastSize, .int v1, .int t_found_3, .ref h_t_row, .ref h_t_isUsed, .ref h_t_table, .int t_rank, .long t_determinant]))] H := hP
    have hD : va_D A [(h_t, .inr (6, [.ref h_t_state, .ref h_t_images, .ref h_t_isKept, .ref h_t_pad, .int t_said, .int t_leastSize, .int v1, .int t_found_3, .ref h_t_row, .ref h_t_isUsed, .ref h_t_table, .int t_rank, .long t_determinant]))] := hD
    have hM := Option.some.inj hM
    subst hM
    rw [← hQ]
    exact on_vret hx hb hr hlk hP hD hS dX6_find_29
abbrev rm_X6_even : Room := { frames := 6, cells := 0, slots := 0, locals := 137 }
set_option maxHeartbeats 4000000 in
set_option maxRecDepth 100000 in
theorem k_X6_even {l : Launch} {D : va_G} {cI cJ cZ cS cA : ClassId} (h_t : Nat) (h_t_state : Nat) (h_t_images : Nat) (h_t_isKept : Nat) (h_t_pad : Nat) (h_t_row : Nat) (h_t_isUsed : Nat) (h_t_table : Nat) (t_said : Int32) (t_leastSize : Int32) (t_leastSet : Int32) (t_found : Int32) (t_rank : Int32) (t_determinant : Int64) (t_state : Nat → Int32) (v1 : Int32) (v2 : Int32) (out : Int32 × Int32 × Int32) (hM : M_X6_even v1 v2 t_leastSet t_found t_state = some out) : on_Con l yX6_even wsX6_even rm_X6_even [.ref h_t, .int v1, .int v2] D (on_T cI cJ cZ cS cA) [(h_t, .inr (6, [.ref h_t_state, .ref h_t_images, .ref h_t_isKept, .ref h_t_pad, .int t_said, .int t_leastSize, .int t_leastSet, .int t_found, .ref h_t_row, .ref h_t_isUsed, .ref h_t_table, .int t_rank, .long t_determinant])), (h_t_state, .inl (cI, 4, .inl t_state))] (some (.int out.1)) [(h_t, .inr (6, [.ref h_t_state, .ref h_t_images, .ref h_t_isKept, .ref h_t_pad, .int t_said, .int t_leastSize, .int out.2.1, .int out.2.2, .ref h_t_row, .ref h_t_isUsed, .ref h_t_table, .int t_rank, .long t_determinant])), (h_t_state, .inl (cI, 4, .inl t_state))] := by
  unfold M_X6_even at hM
  refine on_enter (cc := cX6_even) (nL := 4) (rt := (some .int)) (own := RX6) (by decide +kernel) rfl rfl (Nat.le_of_ble_eq_true rfl) ?_
  intro p e s m below meth c A ls hx hb hml hr hlk hts hown hA hK hN H locs hP hD hS hl
  have hl : lv_has ls 4 [(0, .ref h_t), (1, .int v1), (2, .int v2)] := hl
  generalize hQ : MQ below (on_Q D (some (.int out.1)) [(h_t, .inr (6, [.ref h_t_state, .ref h_t_images, .ref h_t_isKept, .ref h_t_pad, .int t_said, .int t_leastSize, .int out.2.1, .int out.2.2, .ref h_t_row, .ref h_t_isUsed, .ref h_t_table, .int t_rank, .long t_determinant])), (h_t_state, .inl (cI, 4, .inl t_state))] A) _ s 0 0 A = Q
  generalize hAr : List.toArray ([.ref h_t, .int v1, .int v2] : List Value) = args at hts hQ ⊢
  have w1 := hts (.fieldLink RX6 140 "OddNetsModel" "leastSet" "I") (by decide +kernel)
  have w2 : ∀ w ∈ wsX60, w ∈ wsX6_even := by decide +kernel
  have w3 := hts (.fieldLink RX6 143 "OddNetsModel" "found" "I") (by decide +kernel)
  have lp_27 : ∀ (v1 : Int32) (v2 : Int32), ∀ (n : Nat) (v3 : Int32) (t_leastSet : Int32) (t_found : Int32) (x : Int32 × Int32), on_loop (fun (s : Int32 × Int32 × Int32) => B_X6_even_27 v1 t_state s.1 s.2.1 s.2.2) n (v3, t_leastSet, t_found) = some x → (∀ (H : Heap) (locs : List Loc), va_P D vwCl [(h_t, .inr (6, [.ref h_t_state, .ref h_t_images, .ref h_t_isKept, .ref h_t_pad, .int t_said, .int t_leastSize, .int x.1, .int x.2, .ref h_t_row, .ref h_t_isUsed, .ref h_t_table, .int t_rank, .long t_determinant])), (h_t_state, .inl (cI, 4, .inl t_state))] H → va_D A [(h_t, .inr (6, [.ref h_t_state, .ref h_t_images, .ref h_t_isKept, .ref h_t_pad, .int t_said, .int t_leastSize, .int x.1, .int x.2, .ref h_t_row, .ref h_t_isUsed, .ref h_t_table, .int t_rank, .long t_determinant])), (h_t_state, .inl (cI, 4, .inl t_state))] → va_S A s.heap H locs → ∀ ls : Array Slot, lv_has ls 4 [(0, .ref h_t), (2, .int v2)] → W p l e rm_X6_even s m args below meth c H locs 0 0 Q (F0 m 68 ls [])) → ∀ (H : Heap) (locs : List Loc), va_P D vwCl [(h_t, .inr (6, [.ref h_t_state, .ref h_t_images, .ref h_t_isKept, .ref h_t_pad, .int t_said, .int t_leastSize, .int t_leastSet, .int t_found, .ref h_t_row, .ref h_t_isUsed, .ref h_t_table, .int t_rank, .long t_determinant])), (h_t_state, .inl (cI, 4, .inl t_state))] H → va_D A [(h_t, .inr (6, [.ref h_t_state, .ref h_t_images, .ref h_t_isKept, .ref h_t_pad, .int t_said, .int t_leastSize, .int t_leastSet, .int t_found, .ref h_t_row, .ref h_t_isUsed, .ref h_t_table, .int t_rank, .long t_determinant])), (h_t_state, .inl (cI, 4, .inl t_state))] → va_S A s.heap H locs → ∀ ls : Array Slot, lv_has ls 4 [(0, .ref h_t), (1, .int v1), (2, .int v2), (3, .int v3)] → W p l e rm_X6_even s m args below meth c H locs 0 0 Q (F0 m 27 ls []) := by
    intro v1 v2
    intro n
    induction n with
    | zero =>
      intro v3 t_leastSet t_found x hL
      exact (on_loop0 hL).elim
    | succ n ih =>
      intro v3 t_leastSet t_found x hL K1 H locs hP hD hS ls hl
      obtain ⟨y, hM, hk⟩ := on_loopE hL
      have hM : B_X6_even_27 v1 t_state v3 t_leastSet t_found = some y := hM
      unfold B_X6_even_27 at hM
      refine lv_iload_n hx hb dX6_even_27 rfl (lv_at hl 3 rfl) ?_
      refine lv_iconst (v := 1) hx hb dX6_even_28 (by decide) ?_
      refine lv_aload_n hx hb dX6_even_29 rfl (lv_at hl 0 rfl) ?_
      obtain ⟨q_6, hq_6, hM⟩ := on_bind hM
      refine on_callV (rest := [.int (1 : Int32), .int v3]) (As := []) (st1 := [.int q_6, .int (1 : Int32), .int v3]) (C := RX6) (ci := 6) (q0 := 0) (wc := [(h_t, .inr (6, [.ref h_t_state, .ref h_t_images, .ref h_t_isKept, .ref h_t_pad, .int t_said, .int t_leastSize, .int t_leastSet, .int t_found, .ref h_t_row, .ref h_t_isUsed, .ref h_t_table, .int t_rank, .long t_determinant])), (h_t_state, .inl (cI, 4, .inl t_state))]) (wr := []) (wc' := [(h_t, .inr (6, [.ref h_t_state, .ref h_t_images, .ref h_t_isKept, .ref h_t_pad, .int t_said, .int t_leastSize, .int t_leastSet, .int t_found, .ref h_t_row, .ref h_t_isUsed, .ref h_t_table, .int t_rank, .long t_determinant])), (h_t_state, .inl (cI, 4, .inl t_state))]) (wf := [(h_t, .inr (6, [.ref h_t_state, .ref h_t_images, .ref h_t_isKept, .ref h_t_pad, .int t_said, .int t_leastSize, .int t_leastSet, .int t_found, .ref h_t_row, .ref h_t_isUsed, .ref h_t_table, .int t_rank, .long t_determinant])), (h_t_state, .inl (cI, 4, .inl t_state))]) (rt := (some (.int q_6))) ⟨hx, hb, hml, hown, hts⟩ (k_X6_many h_t h_t_state h_t_images h_t_isKept h_t_pad h_t_row h_t_isUsed h_t_table t_said t_leastSize t_leastSet t_found t_rank t_determinant t_state q_6 hq_6) (cwV 0 hts gX6_even_X6_many rfl rfl rfl ⟨rfl, hdX6_many⟩ ⟨(Nat.le_of_ble_eq_true rfl), (Nat.le_of_ble_eq_true rfl)⟩) hK hN hP hD hS hA [0, 1] [] [0, 1] rfl rfl rfl rfl (by decide) rfl rfl rfl rfl rfl rfl hl.1 rfl (Nat.le_of_ble_eq_true rfl) rfl dX6_even_30 ⟨Nat.zero_le _, Nat.zero_le _⟩ (fun H locs hP hD hS => ?_)
      refine lv_ishl hx hb dX6_even_33 ?_
      refine lv_icmp_ge (tgt := 68) hx hb dX6_even_34 (by decide) (fun c_7 => ?_) (fun c_7 => ?_)
      · have hM := on_pos c_7 hM
        have hk := on_nxR hM hk
        subst hk
        exact K1 _ _ hP hD hS ls (lv_sub hl [0, 2] rfl)
      · have hM := on_neg c_7 hM
        refine lv_aload_n hx hb dX6_even_37 rfl (lv_at hl 0 rfl) ?_
        refine lv_aload_n hx hb dX6_even_38 rfl (lv_at hl 0 rfl) ?_
        obtain ⟨q_8, hq_8, hM⟩ := on_bind hM
        refine on_callV (rest := [.ref h_t]) (As := []) (st1 := [.int q_8, .ref h_t]) (C := RX6) (ci := 6) (q0 := 0) (wc := [(h_t, .inr (6, [.ref h_t_state, .ref h_t_images, .ref h_t_isKept, .ref h_t_pad, .int t_said, .int t_leastSize, .int t_leastSet, .int t_found, .ref h_t_row, .ref h_t_isUsed, .ref h_t_table, .int t_rank, .long t_determinant])), (h_t_state, .inl (cI, 4, .inl t_state))]) (wr := []) (wc' := [(h_t, .inr (6, [.ref h_t_state, .ref h_t_images, .ref h_t_isKept, .ref h_t_pad, .int t_said, .int t_leastSize, .int t_leastSet, .int t_found, .ref h_t_row, .ref h_t_isUsed, .ref h_t_table, .int t_rank, .long t_determinant])), (h_t_state, .inl (cI, 4, .inl t_state))]) (wf := [(h_t, .inr (6, [.ref h_t_state, .ref h_t_images, .ref h_t_isKept, .ref h_t_pad, .int t_said, .int t_leastSize, .int t_leastSet, .int t_found, .ref h_t_row, .ref h_t_isUsed, .ref h_t_table, .int t_rank, .long t_determinant])), (h_t_state, .inl (cI, 4, .inl t_state))]) (rt := (some (.int q_8))) ⟨hx, hb, hml, hown, hts⟩ (k_X6_many h_t h_t_state h_t_images h_t_isKept h_t_pad h_t_row h_t_isUsed h_t_table t_said t_leastSize t_leastSet t_found t_rank t_determinant t_state q_8 hq_8) (cwV 0 hts gX6_even_X6_many rfl rfl rfl ⟨rfl, hdX6_many⟩ ⟨(Nat.le_of_ble_eq_true rfl), (Nat.le_of_ble_eq_true rfl)⟩) hK hN hP hD hS hA [0, 1] [] [0, 1] rfl rfl rfl rfl (by decide) rfl rfl rfl rfl rfl rfl hl.1 rfl (Nat.le_of_ble_eq_true rfl) rfl dX6_even_39 ⟨Nat.zero_le _, Nat.zero_le _⟩ (fun H locs hP hD hS => ?_)
        refine lv_aload_n hx hb dX6_even_42 rfl (lv_at hl 0 rfl) ?_
        refine lv_iload_n hx hb dX6_even_43 rfl (lv_at hl 1 rfl) ?_
        obtain ⟨q_9, hq_9, hM⟩ := on_bind hM
        refine on_callV (rest := [.int q_8, .ref h_t]) (As := [.int v1]) (st1 := [.int q_9, .int q_8, .ref h_t]) (C := RX6) (ci := 6) (q0 := 0) (wc := [(h_t, .inr (6, [.ref h_t_state, .ref h_t_images, .ref h_t_isKept, .ref h_t_pad, .int t_said, .int t_leastSize, .int t_leastSet, .int t_found, .ref h_t_row, .ref h_t_isUsed, .ref h_t_table, .int t_rank, .long t_determinant])), (h_t_state, .inl (cI, 4, .inl t_state))]) (wr := []) (wc' := [(h_t, .inr (6, [.ref h_t_state, .ref h_t_images, .ref h_t_isKept, .ref h_t_pad, .int t_said, .int t_leastSize, .int t_leastSet, .int t_found, .ref h_t_row, .ref h_t_isUsed, .ref h_t_table, .int t_rank, .long t_determinant])), (h_t_state, .inl (cI, 4, .inl t_state))]) (wf := [(h_t, .inr (6, [.ref h_t_state, .ref h_t_images, .ref h_t_isKept, .ref h_t_pad, .int t_said, .int t_leastSize, .int t_leastSet, .int t_found, .ref h_t_row, .ref h_t_isUsed, .ref h_t_table, .int t_rank, .long t_determinant])), (h_t_state, .inl (cI, 4, .inl t_state))]) (rt := (some (.int q_9))) ⟨hx, hb, hml, hown, hts⟩ (k_X6_netOf h_t h_t_state h_t_images h_t_isKept h_t_pad h_t_row h_t_isUsed h_t_table t_said t_leastSize t_leastSet t_found t_rank t_determinant t_state v1 q_9 hq_9) (cwV 1 hts gX6_even_X6_netOf rfl rfl rfl ⟨rfl, hdX6_netOf⟩ ⟨(Nat.le_of_ble_eq_true rfl), (Nat.le_of_ble_eq_true rfl)⟩) hK hN hP hD hS hA [0, 1] [] [0, 1] rfl rfl rfl rfl (by decide) rfl rfl rfl rfl rfl rfl hl.1 rfl (Nat.le_of_ble_eq_true rfl) rfl dX6_even_44 ⟨Nat.zero_le _, Nat.zero_le _⟩ (fun H locs hP hD hS => ?_)
        refine lv_iload_n hx hb dX6_even_47 rfl (lv_at hl 3 rfl) ?_
        obtain ⟨q_10, hq_10, hM⟩ := on_bind hM
        refine on_callS0 (rest := [.ref h_t]) (As := [.int q_8, .int q_9, .int v3]) (st1 := [.int q_10, .ref h_t]) ⟨hx, hb, hml, hown, hts⟩ (k_X6_switched q_8 q_9 v3 q_10 hq_10) (va_cwS 3 hts gX6_even_X6_switched rfl rfl rfl hdX6_switched ⟨(Nat.le_of_ble_eq_true rfl), (Nat.le_of_ble_eq_true rfl)⟩) hK hN hP hD hS hA rfl hl.1 rfl (Nat.le_of_ble_eq_true rfl) rfl dX6_even_48 ⟨Nat.zero_le _, Nat.zero_le _⟩ (fun H locs hP hS => ?_)
        obtain ⟨q_11, hq_11, hM⟩ := on_bind hM
        refine on_callV (rest := []) (As := [.int q_10]) (st1 := [.int q_11]) (C := RX6) (ci := 6) (q0 := 0) (wc := [(h_t, .inr (6, [.ref h_t_state, .ref h_t_images, .ref h_t_isKept, .ref h_t_pad, .int t_said, .int t_leastSize, .int t_leastSet, .int t_found, .ref h_t_row, .ref h_t_isUsed, .ref h_t_table, .int t_rank, .long t_determinant])), (h_t_state, .inl (cI, 4, .inl t_state))]) (wr := []) (wc' := [(h_t, .inr (6, [.ref h_t_state, .ref h_t_images, .ref h_t_isKept, .ref h_t_pad, .int t_said, .int t_leastSize, .int t_leastSet, .int t_found, .ref h_t_row, .ref h_t_isUsed, .ref h_t_table, .int t_rank, .long t_determinant])), (h_t_state, .inl (cI, 4, .inl t_state))]) (wf := [(h_t, .inr (6, [.ref h_t_state, .ref h_t_images, .ref h_t_isKept, .ref h_t_pad, .int t_said, .int t_leastSize, .int t_leastSet, .int t_found, .ref h_t_row, .ref h_t_isUsed, .ref h_t_table, .int t_rank, .long t_determinant])), (h_t_state, .inl (cI, 4, .inl t_state))]) (rt := (some (.int q_11))) ⟨hx, hb, hml, hown, hts⟩ (k_X6_oddNodes h_t h_t_state h_t_images h_t_isKept h_t_pad h_t_row h_t_isUsed h_t_table t_said t_leastSize t_leastSet t_found t_rank t_determinant t_state q_10 q_11 hq_11) (cwV 1 hts gX6_even_X6_oddNodes rfl rfl rfl ⟨rfl, hdX6_oddNodes⟩ ⟨(Nat.le_of_ble_eq_true rfl), (Nat.le_of_ble_eq_true rfl)⟩) hK hN hP hD hS hA [0, 1] [] [0, 1] rfl rfl rfl rfl (by decide) rfl rfl rfl rfl rfl rfl hl.1 rfl (Nat.le_of_ble_eq_true rfl) rfl dX6_even_51 ⟨Nat.zero_le _, Nat.zero_le _⟩ (fun H locs hP hD hS => ?_)
        refine lv_if_ne (tgt := 62) hx hb dX6_even_54 (by decide) (fun c_12 => ?_) (fun c_12 => ?_)
        · have hM := on_neg c_12 hM
          obtain ⟨v3_13, ev3_13⟩ : ∃ z : Int32, z = v3 + 2 := ⟨_, rfl⟩
          have hM := on_letE ev3_13 hM
          refine lv_iinc (v := v3_13) (lv' := [(3, .int v3_13), (0, .ref h_t), (1, .int v1), (2, .int v2)]) hx hb dX6_even_62 hl (k := 3) rfl (by rw [ev3_13]; rfl) (by decide) rfl (fun ls hl => ?_)
          refine lv_goto (tgt := 27) hx hb dX6_even_65 (by decide) ?_
          have hk := on_nxL hM hk
          exact ih v3_13 t_leastSet t_found _ hk K1 _ _ hP hD hS ls (lv_sub hl [1, 2, 3, 0] rfl)
        · have hM := on_pos c_12 hM
          refine lv_aload_n hx hb dX6_even_57 rfl (lv_at hl 0 rfl) ?_
          refine lv_iload_n hx hb dX6_even_58 rfl (lv_at hl 3 rfl) ?_
          obtain ⟨q_14, hq_14, hM⟩ := on_bind hM
          refine on_callV (rest := []) (As := [.int v3]) (st1 := []) (C := RX6) (ci := 6) (q0 := 0) (wc := [(h_t, .inr (6, [.ref h_t_state, .ref h_t_images, .ref h_t_isKept, .ref h_t_pad, .int t_said, .int t_leastSize, .int t_leastSet, .int t_found, .ref h_t_row, .ref h_t_isUsed, .ref h_t_table, .int t_rank, .long t_determinant]))]) (wr := [(h_t_state, .inl (cI, 4, .inl t_state))]) (wc' := [(h_t, .inr (6, [.ref h_t_state, .ref h_t_images, .ref h_t_isKept, .ref h_t_pad, .int t_said, .int t_leastSize, .int q_14.1, .int q_14.2, .ref h_t_row, .ref h_t_isUsed, .ref h_t_table, .int t_rank, .long t_determinant]))]) (wf := [(h_t, .inr (6, [.ref h_t_state, .ref h_t_images, .ref h_t_isKept, .ref h_t_pad, .int t_said, .int t_leastSize, .int q_14.1, .int q_14.2, .ref h_t_row, .ref h_t_isUsed, .ref h_t_table, .int t_rank, .long t_determinant])), (h_t_state, .inl (cI, 4, .inl t_state))]) (rt := none) ⟨hx, hb, hml, hown, hts⟩ (k_X6_find h_t h_t_state h_t_images h_t_isKept h_t_pad h_t_row h_t_isUsed h_t_table t_said t_leastSize t_leastSet t_found t_rank t_determinant v3 q_14 hq_14) (cwV 1 hts gX6_even_X6_find rfl rfl rfl ⟨rfl, hdX6_find⟩ ⟨(Nat.le_of_ble_eq_true rfl), (Nat.le_of_ble_eq_true rfl)⟩) hK hN hP hD hS hA [0] [1] [1, 0] rfl rfl rfl rfl (by decide) rfl rfl rfl rfl rfl rfl hl.1 rfl (Nat.le_of_ble_eq_true rfl) rfl dX6_even_59 ⟨Nat.zero_le _, Nat.zero_le _⟩ (fun H locs hP hD hS => ?_)
          obtain ⟨v3_15, ev3_15⟩ : ∃ z : Int32, z = v3 + 2 := ⟨_, rfl⟩
          have hM := on_letE ev3_15 hM
          refine lv_iinc (v := v3_15) (lv' := [(3, .int v3_15), (0, .ref h_t), (1, .int v1), (2, .int v2)]) hx hb dX6_even_62 hl (k := 3) rfl (by rw [ev3_15]; rfl) (by decide) rfl (fun ls hl => ?_)
          refine lv_goto (tgt := 27) hx hb dX6_even_65 (by decide) ?_
          have hk := on_nxL hM hk
          exact ih v3_15 q_14.1 q_14.2 _ hk K1 _ _ hP hD hS ls (lv_sub hl [1, 2, 3, 0] rfl)
  refine lv_iload_n hx hb dX6_even_0 rfl (lv_at hl 1 rfl) ?_
  obtain ⟨q_1, hq_1, hM⟩ := on_bind hM
  refine on_callS0 (rest := []) (As := [.int v1]) (st1 := [.int q_1]) ⟨hx, hb, hml, hown, hts⟩ (k_X6_isSlot v1 q_1 hq_1) (va_cwS 1 hts gX6_even_X6_isSlot rfl rfl rfl hdX6_isSlot ⟨(Nat.le_of_ble_eq_true rfl), (Nat.le_of_ble_eq_true rfl)⟩) hK hN hP hD hS hA rfl hl.1 rfl (Nat.le_of_ble_eq_true rfl) rfl dX6_even_1 ⟨Nat.zero_le _, Nat.zero_le _⟩ (fun H locs hP hS => ?_)
  refine lv_if_ne (tgt := 9) hx hb dX6_even_4 (by decide) (fun c_2 => ?_) (fun c_2 => ?_)
  · have hM := on_neg c_2 hM
    refine lv_iload_n hx hb dX6_even_9 rfl (lv_at hl 2 rfl) ?_
    refine lv_iconst (v := 0) hx hb dX6_even_10 (by decide) ?_
    refine lv_iconst (v := 1) hx hb dX6_even_11 (by decide) ?_
    obtain ⟨q_3, hq_3, hM⟩ := on_bind hM
    refine on_callS0 (rest := []) (As := [.int v2, .int (0 : Int32), .int (1 : Int32)]) (st1 := [.int q_3]) ⟨hx, hb, hml, hown, hts⟩ (k_X6_in v2 (0 : Int32) (1 : Int32) q_3 hq_3) (va_cwS 3 hts gX6_even_X6_in rfl rfl rfl hdX6_in ⟨(Nat.le_of_ble_eq_true rfl), (Nat.le_of_ble_eq_true rfl)⟩) hK hN hP hD hS hA rfl hl.1 rfl (Nat.le_of_ble_eq_true rfl) rfl dX6_even_12 ⟨Nat.zero_le _, Nat.zero_le _⟩ (fun H locs hP hS => ?_)
    refine lv_if_ne (tgt := 21) hx hb dX6_even_15 (by decide) (fun c_4 => ?_) (fun c_4 => ?_)
    · have hM := on_neg c_4 hM
      refine lv_aload_n hx hb dX6_even_21 rfl (lv_at hl 0 rfl) ?_
      obtain ⟨q_5, hq_5, hM⟩ := on_bind hM
      refine on_callV (rest := []) (As := []) (st1 := []) (C := RX6) (ci := 6) (q0 := 0) (wc := [(h_t, .inr (6, [.ref h_t_state, .ref h_t_images, .ref h_t_isKept, .ref h_t_pad, .int t_said, .int t_leastSize, .int t_leastSet, .int t_found, .ref h_t_row, .ref h_t_isUsed, .ref h_t_table, .int t_rank, .long t_determinant]))]) (wr := [(h_t_state, .inl (cI, 4, .inl t_state))]) (wc' := [(h_t, .inr (6, [.ref h_t_state, .ref h_t_images, .ref h_t_isKept, .ref h_t_pad, .int t_said, .int t_leastSize, .int q_5.1, .int q_5.2, .ref h_t_row, .ref h_t_isUsed, .ref h_t_table, .int t_rank, .long t_determinant]))]) (wf := [(h_t, .inr (6, [.ref h_t_state, .ref h_t_images, .ref h_t_isKept, .ref h_t_pad, .int t_said, .int t_leastSize, .int q_5.1, .int q_5.2, .ref h_t_row, .ref h_t_isUsed, .ref h_t_table, .int t_rank, .long t_determinant])), (h_t_state, .inl (cI, 4, .inl t_state))]) (rt := none) ⟨hx, hb, hml, hown, hts⟩ (k_X6_beginFound h_t h_t_state h_t_images h_t_isKept h_t_pad h_t_row h_t_isUsed h_t_table t_said t_leastSize t_leastSet t_found t_rank t_determinant q_5 hq_5) (cwV 0 hts gX6_even_X6_beginFound rfl rfl rfl ⟨rfl, hdX6_beginFound⟩ ⟨(Nat.le_of_ble_eq_true rfl), (Nat.le_of_ble_eq_true rfl)⟩) hK hN hP hD hS hA [0] [1] [1, 0] rfl rfl rfl rfl (by decide) rfl rfl rfl rfl rfl rfl hl.1 rfl (Nat.le_of_ble_eq_true rfl) rfl dX6_even_22 ⟨Nat.zero_le _, Nat.zero_le _⟩ (fun H locs hP hD hS => ?_)
      refine lv_iconst (v := 0) hx hb dX6_even_25 (by decide) ?_
      refine lv_istore_n (lv' := [(3, .int (0 : Int32)), (0, .ref h_t), (1, .int v1), (2, .int v2)]) hx hb dX6_even_26 rfl hl (by decide) rfl (fun ls hl => ?_)
      obtain ⟨q_16, hq_16, hM⟩ := on_bind hM
      refine lp_27 v1 v2 on_F (0 : Int32) q_5.1 q_5.2 q_16 hq_16 (fun H locs hP hD hS ls hl => ?_) H locs hP hD hS ls (lv_sub hl [1, 2, 3, 0] rfl)
      refine lv_iload_n hx hb dX6_even_68 rfl (lv_at hl 1 rfl) ?_
      refine lv_if_ne (tgt := 79) hx hb dX6_even_69 (by decide) (fun c_17 => ?_) (fun c_17 => ?_)
      · have hM := on_neg c_17 hM
        refine lv_aload_n hx hb dX6_even_79 rfl (lv_at hl 0 rfl) ?_
        refine va_get (D := D) (ci := 6) (v := .int q_16.1) (C := RX6) (T := TX6) (N := 13) hx hb hts w2 hown hK hP 0 rfl rfl 6 (by decide) w1 (fun _ h9 => h9) rfl dX6_even_80 ?_
        have hM := Option.some.inj hM
        subst hM
        rw [← hQ]
        exact on_iret hx hb hr hlk hP hD hS dX6_even_83
      · have hM := on_pos c_17 hM
        refine lv_aload_n hx hb dX6_even_72 rfl (lv_at hl 0 rfl) ?_
        refine va_get (D := D) (ci := 6) (v := .int q_16.2) (C := RX6) (T := TX6) (N := 13) hx hb hts w2 hown hK hP 0 rfl rfl 7 (by decide) w3 (fun _ h9 => h9) rfl dX6_even_73 ?_
        refine lv_goto (tgt := 83) hx hb dX6_even_76 (by decide) ?_
        have hM := Option.some.inj hM
        subst hM
        rw [← hQ]
        exact on_iret hx hb hr hlk hP hD hS dX6_even_83
    · have hM := on_pos c_4 hM
      refine lv_bipush (v := -2) hx hb dX6_even_18 (by decide) ?_
      have hM := Option.some.inj hM
      subst hM
      rw [← hQ]
      exact on_iret hx hb hr hlk hP hD hS dX6_even_20
  · have hM := on_pos c_2 hM
    refine lv_iconst (v := -1) hx hb dX6_even_7 (by decide) ?_
    have hM := Option.some.inj hM
    subst hM
    rw [← hQ]
    exact on_iret hx hb hr hlk hP hD hS dX6_even_8
abbrev rm_X6_isBy : Room := { frames := 5, cells := 0, slots := 0, locals := 114 }
set_option maxHeartbeats 4000000 in
set_option maxRecDepth 100000 in
theorem k_X6_isBy {l : Launch} {D : va_G} {cI cJ cZ cS cA : ClassId} (h_t : Nat) (h_t_state : Nat) (h_t_images : Nat) (h_t_isKept : Nat) (h_t_pad : Nat) (h_t_row : Nat) (h_t_isUsed : Nat) (h_t_table : Nat) (t_said : Int32) (t_leastSize : Int32) (t_leastSet : Int32) (t_found : Int32) (t_rank : Int32) (t_determinant : Int64) (t_state : Nat → Int32) (v1 : Int32) (v2 : Int32) (out : Int32) (hM : M_X6_isBy v1 v2 t_state = some out) : on_Con l yX6_isBy wsX6_isBy rm_X6_isBy [.ref h_t, .int v1, .int v2] D (on_T cI cJ cZ cS cA) [(h_t, .inr (6, [.ref h_t_state, .ref h_t_images, .ref h_t_isKept, .ref h_t_pad, .int t_said, .int t_leastSize, .int t_leastSet, .int t_found, .ref h_t_row, .ref h_t_isUsed, .ref h_t_table, .int t_rank, .long t_determinant])), (h_t_state, .inl (cI, 4, .inl t_state))] (some (.int out)) [(h_t, .inr (6, [.ref h_t_state, .ref h_t_images, .ref h_t_isKept, .ref h_t_pad, .int t_said, .int t_leastSize, .int t_leastSet, .int t_found, .ref h_t_row, .ref h_t_isUsed, .ref h_t_table, .int t_rank, .long t_determinant])), (h_t_state, .inl (cI, 4, .inl t_state))] := by
  unfold M_X6_isBy at hM
  refine on_enter (cc := cX6_isBy) (nL := 5) (rt := (some .boolean)) (own := RX6) (by decide +kernel) rfl rfl (Nat.le_of_ble_eq_true rfl) ?_
  intro p e s m below meth c A ls hx hb hml hr hlk hts hown hA hK hN H locs hP hD hS hl
  have hl : lv_has ls 5 [(0, .ref h_t), (1, .int v1), (2, .int v2)] := hl
  generalize hQ : MQ below (on_Q D (some (.int out)) [(h_t, .inr (6, [.ref h_t_state, .ref h_t_images, .ref h_t_isKept, .ref h_t_pad, .int t_said, .int t_leastSize, .int t_leastSet, .int t_found, .ref h_t_row, .ref h_t_isUsed, .ref h_t_table, .int t_rank, .long t_determinant])), (h_t_state, .inl (cI, 4, .inl t_state))] A) _ s 0 0 A = Q
  generalize hAr : List.toArray ([.ref h_t, .int v1, .int v2] : List Value) = args at hts hQ ⊢
  have lp_5 : ∀ (v1 : Int32) (v2 : Int32), ∀ (n : Nat) (v3 : Int32) (v4 : Int32) (x : Int32), on_loop (fun (s : Int32 × Int32) => B_X6_isBy_5 v1 v2 t_state s.1 s.2) n (v3, v4) = some x → (∀ (H : Heap) (locs : List Loc), va_P D vwCl [(h_t, .inr (6, [.ref h_t_state, .ref h_t_images, .ref h_t_isKept, .ref h_t_pad, .int t_said, .int t_leastSize, .int t_leastSet, .int t_found, .ref h_t_row, .ref h_t_isUsed, .ref h_t_table, .int t_rank, .long t_determinant])), (h_t_state, .inl (cI, 4, .inl t_state))] H → va_D A [(h_t, .inr (6, [.ref h_t_state, .ref h_t_images, .ref h_t_isKept, .ref h_t_pad, .int t_said, .int t_leastSize, .int t_leastSet, .int t_found, .ref h_t_row, .ref h_t_isUsed, .ref h_t_table, .int t_rank, .long t_determinant])), (h_t_state, .inl (cI, 4, .inl t_state))] → va_S A s.heap H locs → ∀ ls : Array Slot, lv_has ls 5 [(3, .int x)] → W p l e rm_X6_isBy s m args below meth c H locs 0 0 Q (F0 m 44 ls [])) → ∀ (H : Heap) (locs : List Loc), va_P D vwCl [(h_t, .inr (6, [.ref h_t_state, .ref h_t_images, .ref h_t_isKept, .ref h_t_pad, .int t_said, .int t_leastSize, .int t_leastSet, .int t_found, .ref h_t_row, .ref h_t_isUsed, .ref h_t_table, .int t_rank, .long t_determinant])), (h_t_state, .inl (cI, 4, .inl t_state))] H → va_D A [(h_t, .inr (6, [.ref h_t_state, .ref h_t_images, .ref h_t_isKept, .ref h_t_pad, .int t_said, .int t_leastSize, .int t_leastSet, .int t_found, .ref h_t_row, .ref h_t_isUsed, .ref h_t_table, .int t_rank, .long t_determinant])), (h_t_state, .inl (cI, 4, .inl t_state))] → va_S A s.heap H locs → ∀ ls : Array Slot, lv_has ls 5 [(0, .ref h_t), (1, .int v1), (2, .int v2), (3, .int v3), (4, .int v4)] → W p l e rm_X6_isBy s m args below meth c H locs 0 0 Q (F0 m 5 ls []) := by
    intro v1 v2
    intro n
    induction n with
    | zero =>
      intro v3 v4 x hL
      exact (on_loop0 hL).elim
    | succ n ih =>
      intro v3 v4 x hL K1 H locs hP hD hS ls hl
      obtain ⟨y, hM, hk⟩ := on_loopE hL
      have hM : B_X6_isBy_5 v1 v2 t_state v3 v4 = some y := hM
      unfold B_X6_isBy_5 at hM
      refine lv_iload hx hb dX6_isBy_5 (lv_at hl 4 rfl) ?_
      refine lv_aload_n hx hb dX6_isBy_7 rfl (lv_at hl 0 rfl) ?_
      obtain ⟨q_1, hq_1, hM⟩ := on_bind hM
      refine on_callV (rest := [.int v4]) (As := []) (st1 := [.int q_1, .int v4]) (C := RX6) (ci := 6) (q0 := 0) (wc := [(h_t, .inr (6, [.ref h_t_state, .ref h_t_images, .ref h_t_isKept, .ref h_t_pad, .int t_said, .int t_leastSize, .int t_leastSet, .int t_found, .ref h_t_row, .ref h_t_isUsed, .ref h_t_table, .int t_rank, .long t_determinant])), (h_t_state, .inl (cI, 4, .inl t_state))]) (wr := []) (wc' := [(h_t, .inr (6, [.ref h_t_state, .ref h_t_images, .ref h_t_isKept, .ref h_t_pad, .int t_said, .int t_leastSize, .int t_leastSet, .int t_found, .ref h_t_row, .ref h_t_isUsed, .ref h_t_table, .int t_rank, .long t_determinant])), (h_t_state, .inl (cI, 4, .inl t_state))]) (wf := [(h_t, .inr (6, [.ref h_t_state, .ref h_t_images, .ref h_t_isKept, .ref h_t_pad, .int t_said, .int t_leastSize, .int t_leastSet, .int t_found, .ref h_t_row, .ref h_t_isUsed, .ref h_t_table, .int t_rank, .long t_determinant])), (h_t_state, .inl (cI, 4, .inl t_state))]) (rt := (some (.int q_1))) ⟨hx, hb, hml, hown, hts⟩ (k_X6_many h_t h_t_state h_t_images h_t_isKept h_t_pad h_t_row h_t_isUsed h_t_table t_said t_leastSize t_leastSet t_found t_rank t_determinant t_state q_1 hq_1) (cwV 0 hts gX6_isBy_X6_many rfl rfl rfl ⟨rfl, hdX6_many⟩ ⟨(Nat.le_of_ble_eq_true rfl), (Nat.le_of_ble_eq_true rfl)⟩) hK hN hP hD hS hA [0, 1] [] [0, 1] rfl rfl rfl rfl (by decide) rfl rfl rfl rfl rfl rfl hl.1 rfl (Nat.le_of_ble_eq_true rfl) rfl dX6_isBy_8 ⟨Nat.zero_le _, Nat.zero_le _⟩ (fun H locs hP hD hS => ?_)
      refine lv_icmp_ge (tgt := 44) hx hb dX6_isBy_11 (by decide) (fun c_2 => ?_) (fun c_2 => ?_)
      · have hM := on_pos c_2 hM
        have hk := on_nxR hM hk
        subst hk
        exact K1 _ _ hP hD hS ls (lv_sub hl [3] rfl)
      · have hM := on_neg c_2 hM
        refine lv_iload_n hx hb dX6_isBy_14 rfl (lv_at hl 3 rfl) ?_
        refine lv_if_eq (tgt := 36) hx hb dX6_isBy_15 (by decide) (fun c_3 => ?_) (fun c_3 => ?_)
        · have hM := on_pos c_3 hM
          refine lv_iconst (v := 0) hx hb dX6_isBy_36 (by decide) ?_
          refine lv_istore_n (lv' := [(3, .int (0 : Int32)), (0, .ref h_t), (1, .int v1), (2, .int v2), (4, .int v4)]) hx hb dX6_isBy_37 rfl hl (by decide) rfl (fun ls hl => ?_)
          obtain ⟨v4_4, ev4_4⟩ : ∃ z : Int32, z = v4 + 1 := ⟨_, rfl⟩
          have hM := on_letE ev4_4 hM
          refine lv_iinc (v := v4_4) (lv' := [(4, .int v4_4), (3, .int (0 : Int32)), (0, .ref h_t), (1, .int v1), (2, .int v2)]) hx hb dX6_isBy_38 hl (k := 4) rfl (by rw [ev4_4]; rfl) (by decide) rfl (fun ls hl => ?_)
          refine lv_goto (tgt := 5) hx hb dX6_isBy_41 (by decide) ?_
          have hk := on_nxL hM hk
          exact ih (0 : Int32) v4_4 _ hk K1 _ _ hP hD hS ls (lv_sub hl [2, 3, 4, 1, 0] rfl)
        · have hM := on_neg c_3 hM
          refine lv_aload_n hx hb dX6_isBy_18 rfl (lv_at hl 0 rfl) ?_
          obtain ⟨q_5, hq_5, hM⟩ := on_bind hM
          refine on_callV (rest := []) (As := []) (st1 := [.int q_5]) (C := RX6) (ci := 6) (q0 := 0) (wc := [(h_t, .inr (6, [.ref h_t_state, .ref h_t_images, .ref h_t_isKept, .ref h_t_pad, .int t_said, .int t_leastSize, .int t_leastSet, .int t_found, .ref h_t_row, .ref h_t_isUsed, .ref h_t_table, .int t_rank, .long t_determinant])), (h_t_state, .inl (cI, 4, .inl t_state))]) (wr := []) (wc' := [(h_t, .inr (6, [.ref h_t_state, .ref h_t_images, .ref h_t_isKept, .ref h_t_pad, .int t_said, .int t_leastSize, .int t_leastSet, .int t_found, .ref h_t_row, .ref h_t_isUsed, .ref h_t_table, .int t_rank, .long t_determinant])), (h_t_state, .inl (cI, 4, .inl t_state))]) (wf := [(h_t, .inr (6, [.ref h_t_state, .ref h_t_images, .ref h_t_isKept, .ref h_t_pad, .int t_said, .int t_leastSize, .int t_leastSet, .int t_found, .ref h_t_row, .ref h_t_isUsed, .ref h_t_table, .int t_rank, .long t_determinant])), (h_t_state, .inl (cI, 4, .inl t_state))]) (rt := (some (.int q_5))) ⟨hx, hb, hml, hown, hts⟩ (k_X6_many h_t h_t_state h_t_images h_t_isKept h_t_pad h_t_row h_t_isUsed h_t_table t_said t_leastSize t_leastSet t_found t_rank t_determinant t_state q_5 hq_5) (cwV 0 hts gX6_isBy_X6_many rfl rfl rfl ⟨rfl, hdX6_many⟩ ⟨(Nat.le_of_ble_eq_true rfl), (Nat.le_of_ble_eq_true rfl)⟩) hK hN hP hD hS hA [0, 1] [] [0, 1] rfl rfl rfl rfl (by decide) rfl rfl rfl rfl rfl rfl hl.1 rfl (Nat.le_of_ble_eq_true rfl) rfl dX6_isBy_19 ⟨Nat.zero_le _, Nat.zero_le _⟩ (fun H locs hP hD hS => ?_)
          refine lv_iload_n hx hb dX6_isBy_22 rfl (lv_at hl 1 rfl) ?_
          refine lv_iload hx hb dX6_isBy_23 (lv_at hl 4 rfl) ?_
          obtain ⟨q_6, hq_6, hM⟩ := on_bind hM
          refine on_callS0 (rest := []) (As := [.int q_5, .int v1, .int v4]) (st1 := [.int q_6]) ⟨hx, hb, hml, hown, hts⟩ (k_X6_degree q_5 v1 v4 q_6 hq_6) (va_cwS 3 hts gX6_isBy_X6_degree rfl rfl rfl hdX6_degree ⟨(Nat.le_of_ble_eq_true rfl), (Nat.le_of_ble_eq_true rfl)⟩) hK hN hP hD hS hA rfl hl.1 rfl (Nat.le_of_ble_eq_true rfl) rfl dX6_isBy_25 ⟨Nat.zero_le _, Nat.zero_le _⟩ (fun H locs hP hS => ?_)
          refine lv_iload_n hx hb dX6_isBy_28 rfl (lv_at hl 2 rfl) ?_
          refine lv_icmp_ne (tgt := 36) hx hb dX6_isBy_29 (by decide) (fun c_7 => ?_) (fun c_7 => ?_)
          · have hM := on_neg c_7 hM
            refine lv_iconst (v := 0) hx hb dX6_isBy_36 (by decide) ?_
            refine lv_istore_n (lv' := [(3, .int (0 : Int32)), (0, .ref h_t), (1, .int v1), (2, .int v2), (4, .int v4)]) hx hb dX6_isBy_37 rfl hl (by decide) rfl (fun ls hl => ?_)
            obtain ⟨v4_8, ev4_8⟩ : ∃ z : Int32, z = v4 + 1 := ⟨_, rfl⟩
            have hM := on_letE ev4_8 hM
            refine lv_iinc (v := v4_8) (lv' := [(4, .int v4_8), (3, .int (0 : Int32)), (0, .ref h_t), (1, .int v1), (2, .int v2)]) hx hb dX6_isBy_38 hl (k := 4) rfl (by rw [ev4_8]; rfl) (by decide) rfl (fun ls hl => ?_)
            refine lv_goto (tgt := 5) hx hb dX6_isBy_41 (by decide) ?_
            have hk := on_nxL hM hk
            exact ih (0 : Int32) v4_8 _ hk K1 _ _ hP hD hS ls (lv_sub hl [2, 3, 4, 1, 0] rfl)
          · have hM := on_pos c_7 hM
            refine lv_iconst (v := 1) hx hb dX6_isBy_32 (by decide) ?_
            refine lv_goto (tgt := 37) hx hb dX6_isBy_33 (by decide) ?_
            refine lv_istore_n (lv' := [(3, .int (1 : Int32)), (0, .ref h_t), (1, .int v1), (2, .int v2), (4, .int v4)]) hx hb dX6_isBy_37 rfl hl (by decide) rfl (fun ls hl => ?_)
            obtain ⟨v4_9, ev4_9⟩ : ∃ z : Int32, z = v4 + 1 := ⟨_, rfl⟩
            have hM := on_letE ev4_9 hM
            refine lv_iinc (v := v4_9) (lv' := [(4, .int v4_9), (3, .int (1 : Int32)), (0, .ref h_t), (1, .int v1), (2, .int v2)]) hx hb dX6_isBy_38 hl (k := 4) rfl (by rw [ev4_9]; rfl) (by decide) rfl (fun ls hl => ?_)
            refine lv_goto (tgt := 5) hx hb dX6_isBy_41 (by decide) ?_
            have hk := on_nxL hM hk
            exact ih (1 : Int32) v4_9 _ hk K1 _ _ hP hD hS ls (lv_sub hl [2, 3, 4, 1, 0] rfl)
  refine lv_iconst (v := 1) hx hb dX6_isBy_0 (by decide) ?_
  refine lv_istore_n (lv' := [(3, .int (1 : Int32)), (0, .ref h_t), (1, .int v1), (2, .int v2)]) hx hb dX6_isBy_1 rfl hl (by decide) rfl (fun ls hl => ?_)
  refine lv_iconst (v := 0) hx hb dX6_isBy_2 (by decide) ?_
  refine lv_istore (lv' := [(4, .int (0 : Int32)), (3, .int (1 : Int32)), (0, .ref h_t), (1, .int v1), (2, .int v2)]) hx hb dX6_isBy_3 hl (by decide) rfl (fun ls hl => ?_)
  obtain ⟨q_10, hq_10, hM⟩ := on_bind hM
  refine lp_5 v1 v2 on_F (1 : Int32) (0 : Int32) q_10 hq_10 (fun H locs hP hD hS ls hl => ?_) H locs hP hD hS ls (lv_sub hl [2, 3, 4, 1, 0] rfl)
  refine lv_iload_n hx hb dX6_isBy_44 rfl (lv_at hl 0 rfl) ?_
  obtain ⟨g_11, hM⟩ := on_gdE hM
  have hM := Option.some.inj hM
  subst hM
  rw [← hQ]
  exact on_zret hx hb hr hlk hP hD hS g_11 dX6_isBy_45
abbrev rm_X6_isEvenly : Room := { frames := 5, cells := 0, slots := 0, locals := 115 }
set_option maxHeartbeats 4000000 in
set_option maxRecDepth 100000 in
theorem k_X6_isEvenly {l : Launch} {D : va_G} {cI cJ cZ cS cA : ClassId} (h_t : Nat) (h_t_state : Nat) (h_t_images : Nat) (h_t_isKept : Nat) (h_t_pad : Nat) (h_t_row : Nat) (h_t_isUsed : Nat) (h_t_table : Nat) (t_said : Int32) (t_leastSize : Int32) (t_leastSet : Int32) (t_found : Int32) (t_rank : Int32) (t_determinant : Int64) (t_state : Nat → Int32) (v1 : Int32) (v2 : Int32) (out : Int32) (hM : M_X6_isEvenly v1 v2 t_state = some out) : on_Con l yX6_isEvenly wsX6_isEvenly rm_X6_isEvenly [.ref h_t, .int v1, .int v2] D (on_T cI cJ cZ cS cA) [(h_t, .inr (6, [.ref h_t_state, .ref h_t_images, .ref h_t_isKept, .ref h_t_pad, .int t_said, .int t_leastSize, .int t_leastSet, .int t_found, .ref h_t_row, .ref h_t_isUsed, .ref h_t_table, .int t_rank, .long t_determinant])), (h_t_state, .inl (cI, 4, .inl t_state))] (some (.int out)) [(h_t, .inr (6, [.ref h_t_state, .ref h_t_images, .ref h_t_isKept, .ref h_t_pad, .int t_said, .int t_leastSize, .int t_leastSet, .int t_found, .ref h_t_row, .ref h_t_isUsed, .ref h_t_table, .int t_rank, .long t_determinant])), (h_t_state, .inl (cI, 4, .inl t_state))] := by
  unfold M_X6_isEvenly at hM
  refine on_enter (cc := cX6_isEvenly) (nL := 8) (rt := (some .boolean)) (own := RX6) (by decide +kernel) rfl rfl (Nat.le_of_ble_eq_true rfl) ?_
  intro p e s m below meth c A ls hx hb hml hr hlk hts hown hA hK hN H locs hP hD hS hl
  have hl : lv_has ls 8 [(0, .ref h_t), (1, .int v1), (2, .int v2)] := hl
  generalize hQ : MQ below (on_Q D (some (.int out)) [(h_t, .inr (6, [.ref h_t_state, .ref h_t_images, .ref h_t_isKept, .ref h_t_pad, .int t_said, .int t_leastSize, .int t_leastSet, .int t_found, .ref h_t_row, .ref h_t_isUsed, .ref h_t_table, .int t_rank, .long t_determinant])), (h_t_state, .inl (cI, 4, .inl t_state))] A) _ s 0 0 A = Q
  generalize hAr : List.toArray ([.ref h_t, .int v1, .int v2] : List Value) = args at hts hQ ⊢
  have lp_24 : ∀ (v1 : Int32) (v2 : Int32) (v5 : Int32), ∀ (n : Nat) (v3 : Int32) (v4 : Int32) (v6 : Int32) (x : Int32 × Int32), on_loop (fun (s : Int32 × Int32 × Int32) => B_X6_isEvenly_24 v1 v2 v5 t_state s.1 s.2.1 s.2.2) n (v3, v4, v6) = some x → (∀ (H : Heap) (locs : List Loc), va_P D vwCl [(h_t, .inr (6, [.ref h_t_state, .ref h_t_images, .ref h_t_isKept, .ref h_t_pad, .int t_said, .int t_leastSize, .int t_leastSet, .int t_found, .ref h_t_row, .ref h_t_isUsed, .ref h_t_table, .int t_rank, .long t_determinant])), (h_t_state, .inl (cI, 4, .inl t_state))] H → va_D A [(h_t, .inr (6, [.ref h_t_state, .ref h_t_images, .ref h_t_isKept, .ref h_t_pad, .int t_said, .int t_leastSize, .int t_leastSet, .int t_found, .ref h_t_row, .ref h_t_isUsed, .ref h_t_table, .int t_rank, .long t_determinant])), (h_t_state, .inl (cI, 4, .inl t_state))] → va_S A s.heap H locs → ∀ ls : Array Slot, lv_has ls 8 [(0, .ref h_t), (1, .int v1), (2, .int v2), (3, .int x.1), (4, .int x.2), (5, .int v5)] → W p l e rm_X6_isEvenly s m args below meth c H locs 0 0 Q (F0 m 94 ls [])) → ∀ (H : Heap) (locs : List Loc), va_P D vwCl [(h_t, .inr (6, [.ref h_t_state, .ref h_t_images, .ref h_t_isKept, .ref h_t_pad, .int t_said, .int t_leastSize, .int t_leastSet, .int t_found, .ref h_t_row, .ref h_t_isUsed, .ref h_t_table, .int t_rank, .long t_determinant])), (h_t_state, .inl (cI, 4, .inl t_state))] H → va_D A [(h_t, .inr (6, [.ref h_t_state, .ref h_t_images, .ref h_t_isKept, .ref h_t_pad, .int t_said, .int t_leastSize, .int t_leastSet, .int t_found, .ref h_t_row, .ref h_t_isUsed, .ref h_t_table, .int t_rank, .long t_determinant])), (h_t_state, .inl (cI, 4, .inl t_state))] → va_S A s.heap H locs → ∀ ls : Array Slot, lv_has ls 8 [(0, .ref h_t), (1, .int v1), (2, .int v2), (3, .int v3), (4, .int v4), (5, .int v5), (6, .int v6)] → W p l e rm_X6_isEvenly s m args below meth c H locs 0 0 Q (F0 m 24 ls []) := by
    intro v1 v2 v5
    intro n
    induction n with
    | zero =>
      intro v3 v4 v6 x hL
      exact (on_loop0 hL).elim
    | succ n ih =>
      intro v3 v4 v6 x hL K1 H locs hP hD hS ls hl
      obtain ⟨y, hM, hk⟩ := on_loopE hL
      have hM : B_X6_isEvenly_24 v1 v2 v5 t_state v3 v4 v6 = some y := hM
      unfold B_X6_isEvenly_24 at hM
      refine lv_iload hx hb dX6_isEvenly_24 (lv_at hl 6 rfl) ?_
      refine lv_aload_n hx hb dX6_isEvenly_26 rfl (lv_at hl 0 rfl) ?_
      obtain ⟨q_4, hq_4, hM⟩ := on_bind hM
      refine on_callV (rest := [.int v6]) (As := []) (st1 := [.int q_4, .int v6]) (C := RX6) (ci := 6) (q0 := 0) (wc := [(h_t, .inr (6, [.ref h_t_state, .ref h_t_images, .ref h_t_isKept, .ref h_t_pad, .int t_said, .int t_leastSize, .int t_leastSet, .int t_found, .ref h_t_row, .ref h_t_isUsed, .ref h_t_table, .int t_rank, .long t_determinant])), (h_t_state, .inl (cI, 4, .inl t_state))]) (wr := []) (wc' := [(h_t, .inr (6, [.ref h_t_state, .ref h_t_images, .ref h_t_isKept, .ref h_t_pad, .int t_said, .int t_leastSize, .int t_leastSet, .int t_found, .ref h_t_row, .ref h_t_isUsed, .ref h_t_table, .int t_rank, .long t_determinant])), (h_t_state, .inl (cI, 4, .inl t_state))]) (wf := [(h_t, .inr (6, [.ref h_t_state, .ref h_t_images, .ref h_t_isKept, .ref h_t_pad, .int t_said, .int t_leastSize, .int t_leastSet, .int t_found, .ref h_t_row, .ref h_t_isUsed, .ref h_t_table, .int t_rank, .long t_determinant])), (h_t_state, .inl (cI, 4, .inl t_state))]) (rt := (some (.int q_4))) ⟨hx, hb, hml, hown, hts⟩ (k_X6_many h_t h_t_state h_t_images h_t_isKept h_t_pad h_t_row h_t_isUsed h_t_table t_said t_leastSize t_leastSet t_found t_rank t_determinant t_state q_4 hq_4) (cwV 0 hts gX6_isEvenly_X6_many rfl rfl rfl ⟨rfl, hdX6_many⟩ ⟨(Nat.le_of_ble_eq_true rfl), (Nat.le_of_ble_eq_true rfl)⟩) hK hN hP hD hS hA [0, 1] [] [0, 1] rfl rfl rfl rfl (by decide) rfl rfl rfl rfl rfl rfl hl.1 rfl (Nat.le_of_ble_eq_true rfl) rfl dX6_isEvenly_27 ⟨Nat.zero_le _, Nat.zero_le _⟩ (fun H locs hP hD hS => ?_)
      refine lv_icmp_ge (tgt := 94) hx hb dX6_isEvenly_30 (by decide) (fun c_5 => ?_) (fun c_5 => ?_)
      · have hM := on_pos c_5 hM
        have hk := on_nxR hM hk
        subst hk
        exact K1 _ _ hP hD hS ls (lv_sub hl [0, 1, 2, 3, 4, 5] rfl)
      · have hM := on_neg c_5 hM
        refine lv_aload_n hx hb dX6_isEvenly_33 rfl (lv_at hl 0 rfl) ?_
        obtain ⟨q_6, hq_6, hM⟩ := on_bind hM
        refine on_callV (rest := []) (As := []) (st1 := [.int q_6]) (C := RX6) (ci := 6) (q0 := 0) (wc := [(h_t, .inr (6, [.ref h_t_state, .ref h_t_images, .ref h_t_isKept, .ref h_t_pad, .int t_said, .int t_leastSize, .int t_leastSet, .int t_found, .ref h_t_row, .ref h_t_isUsed, .ref h_t_table, .int t_rank, .long t_determinant])), (h_t_state, .inl (cI, 4, .inl t_state))]) (wr := []) (wc' := [(h_t, .inr (6, [.ref h_t_state, .ref h_t_images, .ref h_t_isKept, .ref h_t_pad, .int t_said, .int t_leastSize, .int t_leastSet, .int t_found, .ref h_t_row, .ref h_t_isUsed, .ref h_t_table, .int t_rank, .long t_determinant])), (h_t_state, .inl (cI, 4, .inl t_state))]) (wf := [(h_t, .inr (6, [.ref h_t_state, .ref h_t_images, .ref h_t_isKept, .ref h_t_pad, .int t_said, .int t_leastSize, .int t_leastSet, .int t_found, .ref h_t_row, .ref h_t_isUsed, .ref h_t_table, .int t_rank, .long t_determinant])), (h_t_state, .inl (cI, 4, .inl t_state))]) (rt := (some (.int q_6))) ⟨hx, hb, hml, hown, hts⟩ (k_X6_many h_t h_t_state h_t_images h_t_isKept h_t_pad h_t_row h_t_isUsed h_t_table t_said t_leastSize t_leastSet t_found t_rank t_determinant t_state q_6 hq_6) (cwV 0 hts gX6_isEvenly_X6_many rfl rfl rfl ⟨rfl, hdX6_many⟩ ⟨(Nat.le_of_ble_eq_true rfl), (Nat.le_of_ble_eq_true rfl)⟩) hK hN hP hD hS hA [0, 1] [] [0, 1] rfl rfl rfl rfl (by decide) rfl rfl rfl rfl rfl rfl hl.1 rfl (Nat.le_of_ble_eq_true rfl) rfl dX6_isEvenly_34 ⟨Nat.zero_le _, Nat.zero_le _⟩ (fun H locs hP hD hS => ?_)
        refine lv_iload_n hx hb dX6_isEvenly_37 rfl (lv_at hl 1 rfl) ?_
        refine lv_iload hx hb dX6_isEvenly_38 (lv_at hl 5 rfl) ?_
        refine lv_iload hx hb dX6_isEvenly_40 (lv_at hl 6 rfl) ?_
        obtain ⟨q_7, hq_7, hM⟩ := on_bind hM
        refine on_callS0 (rest := []) (As := [.int q_6, .int v1, .int v5, .int v6]) (st1 := [.int q_7]) ⟨hx, hb, hml, hown, hts⟩ (k_X6_joined q_6 v1 v5 v6 q_7 hq_7) (va_cwS 4 hts gX6_isEvenly_X6_joined rfl rfl rfl hdX6_joined ⟨(Nat.le_of_ble_eq_true rfl), (Nat.le_of_ble_eq_true rfl)⟩) hK hN hP hD hS hA rfl hl.1 rfl (Nat.le_of_ble_eq_true rfl) rfl dX6_isEvenly_42 ⟨Nat.zero_le _, Nat.zero_le _⟩ (fun H locs hP hS => ?_)
        refine lv_iload_n hx hb dX6_isEvenly_45 rfl (lv_at hl 2 rfl) ?_
        refine lv_icmp_ne (tgt := 88) hx hb dX6_isEvenly_46 (by decide) (fun c_8 => ?_) (fun c_8 => ?_)
        · have hM := on_neg c_8 hM
          obtain ⟨v6_9, ev6_9⟩ : ∃ z : Int32, z = v6 + 1 := ⟨_, rfl⟩
          have hM := on_letE ev6_9 hM
          refine lv_iinc (v := v6_9) (lv' := [(6, .int v6_9), (0, .ref h_t), (1, .int v1), (2, .int v2), (3, .int v3), (4, .int v4), (5, .int v5)]) hx hb dX6_isEvenly_88 hl (k := 6) rfl (by rw [ev6_9]; rfl) (by decide) rfl (fun ls hl => ?_)
          refine lv_goto (tgt := 24) hx hb dX6_isEvenly_91 (by decide) ?_
          have hk := on_nxL hM hk
          exact ih v3 v4 v6_9 _ hk K1 _ _ hP hD hS ls (lv_sub hl [1, 2, 3, 4, 5, 6, 0] rfl)
        · have hM := on_pos c_8 hM
          refine lv_aload_n hx hb dX6_isEvenly_49 rfl (lv_at hl 0 rfl) ?_
          obtain ⟨q_10, hq_10, hM⟩ := on_bind hM
          refine on_callV (rest := []) (As := []) (st1 := [.int q_10]) (C := RX6) (ci := 6) (q0 := 0) (wc := [(h_t, .inr (6, [.ref h_t_state, .ref h_t_images, .ref h_t_isKept, .ref h_t_pad, .int t_said, .int t_leastSize, .int t_leastSet, .int t_found, .ref h_t_row, .ref h_t_isUsed, .ref h_t_table, .int t_rank, .long t_determinant])), (h_t_state, .inl (cI, 4, .inl t_state))]) (wr := []) (wc' := [(h_t, .inr (6, [.ref h_t_state, .ref h_t_images, .ref h_t_isKept, .ref h_t_pad, .int t_said, .int t_leastSize, .int t_leastSet, .int t_found, .ref h_t_row, .ref h_t_isUsed, .ref h_t_table, .int t_rank, .long t_determinant])), (h_t_state, .inl (cI, 4, .inl t_state))]) (wf := [(h_t, .inr (6, [.ref h_t_state, .ref h_t_images, .ref h_t_isKept, .ref h_t_pad, .int t_said, .int t_leastSize, .int t_leastSet, .int t_found, .ref h_t_row, .ref h_t_isUsed, .ref h_t_table, .int t_rank, .long t_determinant])), (h_t_state, .inl (cI, 4, .inl t_state))]) (rt := (some (.int q_10))) ⟨hx, hb, hml, hown, hts⟩ (k_X6_many h_t h_t_state h_t_images h_t_isKept h_t_pad h_t_row h_t_isUsed h_t_table t_said t_leastSize t_leastSet t_found t_rank t_determinant t_state q_10 hq_10) (cwV 0 hts gX6_isEvenly_X6_many rfl rfl rfl ⟨rfl, hdX6_many⟩ ⟨(Nat.le_of_ble_eq_true rfl), (Nat.le_of_ble_eq_true rfl)⟩) hK hN hP hD hS hA [0, 1] [] [0, 1] rfl rfl rfl rfl (by decide) rfl rfl rfl rfl rfl rfl hl.1 rfl (Nat.le_of_ble_eq_true rfl) rfl dX6_isEvenly_50 ⟨Nat.zero_le _, Nat.zero_le _⟩ (fun H locs hP hD hS => ?_)
          refine lv_iload_n hx hb dX6_isEvenly_53 rfl (lv_at hl 1 rfl) ?_
          refine lv_iload hx hb dX6_isEvenly_54 (lv_at hl 5 rfl) ?_
          refine lv_iload hx hb dX6_isEvenly_56 (lv_at hl 6 rfl) ?_
          obtain ⟨q_11, hq_11, hM⟩ := on_bind hM
          refine on_callS0 (rest := []) (As := [.int q_10, .int v1, .int v5, .int v6]) (st1 := [.int q_11]) ⟨hx, hb, hml, hown, hts⟩ (k_X6_common q_10 v1 v5 v6 q_11 hq_11) (va_cwS 4 hts gX6_isEvenly_X6_common rfl rfl rfl hdX6_common ⟨(Nat.le_of_ble_eq_true rfl), (Nat.le_of_ble_eq_true rfl)⟩) hK hN hP hD hS hA rfl hl.1 rfl (Nat.le_of_ble_eq_true rfl) rfl dX6_isEvenly_58 ⟨Nat.zero_le _, Nat.zero_le _⟩ (fun H locs hP hS => ?_)
          refine lv_istore (lv' := [(7, .int q_11), (0, .ref h_t), (1, .int v1), (2, .int v2), (3, .int v3), (4, .int v4), (5, .int v5), (6, .int v6)]) hx hb dX6_isEvenly_61 hl (by decide) rfl (fun ls hl => ?_)
          refine lv_iload hx hb dX6_isEvenly_63 (lv_at hl 5 rfl) ?_
          refine lv_if_eq (tgt := 82) hx hb dX6_isEvenly_65 (by decide) (fun c_12 => ?_) (fun c_12 => ?_)
          · have hM := on_pos c_12 hM
            refine lv_iconst (v := 0) hx hb dX6_isEvenly_82 (by decide) ?_
            refine lv_istore (lv' := [(4, .int (0 : Int32)), (7, .int q_11), (0, .ref h_t), (1, .int v1), (2, .int v2), (3, .int v3), (5, .int v5), (6, .int v6)]) hx hb dX6_isEvenly_83 hl (by decide) rfl (fun ls hl => ?_)
            refine lv_iload hx hb dX6_isEvenly_85 (lv_at hl 1 rfl) ?_
            refine lv_istore_n (lv' := [(3, .int q_11), (4, .int (0 : Int32)), (7, .int q_11), (0, .ref h_t), (1, .int v1), (2, .int v2), (5, .int v5), (6, .int v6)]) hx hb dX6_isEvenly_87 rfl hl (by decide) rfl (fun ls hl => ?_)
            obtain ⟨v6_13, ev6_13⟩ : ∃ z : Int32, z = v6 + 1 := ⟨_, rfl⟩
            have hM := on_letE ev6_13 hM
            refine lv_iinc (v := v6_13) (lv' := [(6, .int v6_13), (3, .int q_11), (4, .int (0 : Int32)), (7, .int q_11), (0, .ref h_t), (1, .int v1), (2, .int v2), (5, .int v5)]) hx hb dX6_isEvenly_88 hl (k := 7) rfl (by rw [ev6_13]; rfl) (by decide) rfl (fun ls hl => ?_)
            refine lv_goto (tgt := 24) hx hb dX6_isEvenly_91 (by decide) ?_
            have hk := on_nxL hM hk
            exact ih q_11 (0 : Int32) v6_13 _ hk K1 _ _ hP hD hS ls (lv_sub hl [4, 5, 6, 1, 2, 7, 0] rfl)
          · have hM := on_neg c_12 hM
            refine lv_iload_n hx hb dX6_isEvenly_68 rfl (lv_at hl 4 rfl) ?_
            refine lv_if_lt (tgt := 78) hx hb dX6_isEvenly_69 (by decide) (fun c_14 => ?_) (fun c_14 => ?_)
            · have hM := on_pos c_14 hM
              refine lv_iconst (v := 1) hx hb dX6_isEvenly_78 (by decide) ?_
              refine lv_goto (tgt := 83) hx hb dX6_isEvenly_79 (by decide) ?_
              refine lv_istore (lv' := [(4, .int (1 : Int32)), (7, .int q_11), (0, .ref h_t), (1, .int v1), (2, .int v2), (3, .int v3), (5, .int v5), (6, .int v6)]) hx hb dX6_isEvenly_83 hl (by decide) rfl (fun ls hl => ?_)
              refine lv_iload hx hb dX6_isEvenly_85 (lv_at hl 1 rfl) ?_
              refine lv_istore_n (lv' := [(3, .int q_11), (4, .int (1 : Int32)), (7, .int q_11), (0, .ref h_t), (1, .int v1), (2, .int v2), (5, .int v5), (6, .int v6)]) hx hb dX6_isEvenly_87 rfl hl (by decide) rfl (fun ls hl => ?_)
              obtain ⟨v6_15, ev6_15⟩ : ∃ z : Int32, z = v6 + 1 := ⟨_, rfl⟩
              have hM := on_letE ev6_15 hM
              refine lv_iinc (v := v6_15) (lv' := [(6, .int v6_15), (3, .int q_11), (4, .int (1 : Int32)), (7, .int q_11), (0, .ref h_t), (1, .int v1), (2, .int v2), (5, .int v5)]) hx hb dX6_isEvenly_88 hl (k := 7) rfl (by rw [ev6_15]; rfl) (by decide) rfl (fun ls hl => ?_)
              refine lv_goto (tgt := 24) hx hb dX6_isEvenly_91 (by decide) ?_
              have hk := on_nxL hM hk
              exact ih q_11 (1 : Int32) v6_15 _ hk K1 _ _ hP hD hS ls (lv_sub hl [4, 5, 6, 1, 2, 7, 0] rfl)
            · have hM := on_neg c_14 hM
              refine lv_iload hx hb dX6_isEvenly_72 (lv_at hl 0 rfl) ?_
              refine lv_iload_n hx hb dX6_isEvenly_74 rfl (lv_at hl 4 rfl) ?_
              refine lv_icmp_ne (tgt := 82) hx hb dX6_isEvenly_75 (by decide) (fun c_16 => ?_) (fun c_16 => ?_)
              · have hM := on_neg c_16 hM
                refine lv_iconst (v := 0) hx hb dX6_isEvenly_82 (by decide) ?_
                refine lv_istore (lv' := [(4, .int (0 : Int32)), (7, .int q_11), (0, .ref h_t), (1, .int v1), (2, .int v2), (3, .int v3), (5, .int v5), (6, .int v6)]) hx hb dX6_isEvenly_83 hl (by decide) rfl (fun ls hl => ?_)
                refine lv_iload hx hb dX6_isEvenly_85 (lv_at hl 1 rfl) ?_
                refine lv_istore_n (lv' := [(3, .int q_11), (4, .int (0 : Int32)), (7, .int q_11), (0, .ref h_t), (1, .int v1), (2, .int v2), (5, .int v5), (6, .int v6)]) hx hb dX6_isEvenly_87 rfl hl (by decide) rfl (fun ls hl => ?_)
                obtain ⟨v6_17, ev6_17⟩ : ∃ z : Int32, z = v6 + 1 := ⟨_, rfl⟩
                have hM := on_letE ev6_17 hM
                refine lv_iinc (v := v6_17) (lv' := [(6, .int v6_17), (3, .int q_11), (4, .int (0 : Int32)), (7, .int q_11), (0, .ref h_t), (1, .int v1), (2, .int v2), (5, .int v5)]) hx hb dX6_isEvenly_88 hl (k := 7) rfl (by rw [ev6_17]; rfl) (by decide) rfl (fun ls hl => ?_)
                refine lv_goto (tgt := 24) hx hb dX6_isEvenly_91 (by decide) ?_
                have hk := on_nxL hM hk
                exact ih q_11 (0 : Int32) v6_17 _ hk K1 _ _ hP hD hS ls (lv_sub hl [4, 5, 6, 1, 2, 7, 0] rfl)
              · have hM := on_pos c_16 hM
                refine lv_iconst (v := 1) hx hb dX6_isEvenly_78 (by decide) ?_
                refine lv_goto (tgt := 83) hx hb dX6_isEvenly_79 (by decide) ?_
                refine lv_istore (lv' := [(4, .int (1 : Int32)), (7, .int q_11), (0, .ref h_t), (1, .int v1), (2, .int v2), (3, .int v3), (5, .int v5), (6, .int v6)]) hx hb dX6_isEvenly_83 hl (by decide) rfl (fun ls hl => ?_)
                refine lv_iload hx hb dX6_isEvenly_85 (lv_at hl 1 rfl) ?_
                refine lv_istore_n (lv' := [(3, .int q_11), (4, .int (1 : Int32)), (7, .int q_11), (0, .ref h_t), (1, .int v1), (2, .int v2), (5, .int v5), (6, .int v6)]) hx hb dX6_isEvenly_87 rfl hl (by decide) rfl (fun ls hl => ?_)
                obtain ⟨v6_18, ev6_18⟩ : ∃ z : Int32, z = v6 + 1 := ⟨_, rfl⟩
                have hM := on_letE ev6_18 hM
                refine lv_iinc (v := v6_18) (lv' := [(6, .int v6_18), (3, .int q_11), (4, .int (1 : Int32)), (7, .int q_11), (0, .ref h_t), (1, .int v1), (2, .int v2), (5, .int v5)]) hx hb dX6_isEvenly_88 hl (k := 7) rfl (by rw [ev6_18]; rfl) (by decide) rfl (fun ls hl => ?_)
                refine lv_goto (tgt := 24) hx hb dX6_isEvenly_91 (by decide) ?_
                have hk := on_nxL hM hk
                exact ih q_11 (1 : Int32) v6_18 _ hk K1 _ _ hP hD hS ls (lv_sub hl [4, 5, 6, 1, 2, 7, 0] rfl)
  have lp_9 : ∀ (v1 : Int32) (v2 : Int32), ∀ (n : Nat) (v3 : Int32) (v4 : Int32) (v5 : Int32) (x : Int32), on_loop (fun (s : Int32 × Int32 × Int32) => B_X6_isEvenly_9 v1 v2 t_state s.1 s.2.1 s.2.2) n (v3, v4, v5) = some x → (∀ (H : Heap) (locs : List Loc), va_P D vwCl [(h_t, .inr (6, [.ref h_t_state, .ref h_t_images, .ref h_t_isKept, .ref h_t_pad, .int t_said, .int t_leastSize, .int t_leastSet, .int t_found, .ref h_t_row, .ref h_t_isUsed, .ref h_t_table, .int t_rank, .long t_determinant])), (h_t_state, .inl (cI, 4, .inl t_state))] H → va_D A [(h_t, .inr (6, [.ref h_t_state, .ref h_t_images, .ref h_t_isKept, .ref h_t_pad, .int t_said, .int t_leastSize, .int t_leastSet, .int t_found, .ref h_t_row, .ref h_t_isUsed, .ref h_t_table, .int t_rank, .long t_determinant])), (h_t_state, .inl (cI, 4, .inl t_state))] → va_S A s.heap H locs → ∀ ls : Array Slot, lv_has ls 8 [(4, .int x)] → W p l e rm_X6_isEvenly s m args below meth c H locs 0 0 Q (F0 m 100 ls [])) → ∀ (H : Heap) (locs : List Loc), va_P D vwCl [(h_t, .inr (6, [.ref h_t_state, .ref h_t_images, .ref h_t_isKept, .ref h_t_pad, .int t_said, .int t_leastSize, .int t_leastSet, .int t_found, .ref h_t_row, .ref h_t_isUsed, .ref h_t_table, .int t_rank, .long t_determinant])), (h_t_state, .inl (cI, 4, .inl t_state))] H → va_D A [(h_t, .inr (6, [.ref h_t_state, .ref h_t_images, .ref h_t_isKept, .ref h_t_pad, .int t_said, .int t_leastSize, .int t_leastSet, .int t_found, .ref h_t_row, .ref h_t_isUsed, .ref h_t_table, .int t_rank, .long t_determinant])), (h_t_state, .inl (cI, 4, .inl t_state))] → va_S A s.heap H locs → ∀ ls : Array Slot, lv_has ls 8 [(0, .ref h_t), (1, .int v1), (2, .int v2), (3, .int v3), (4, .int v4), (5, .int v5)] → W p l e rm_X6_isEvenly s m args below meth c H locs 0 0 Q (F0 m 9 ls []) := by
    intro v1 v2
    intro n
    induction n with
    | zero =>
      intro v3 v4 v5 x hL
      exact (on_loop0 hL).elim
    | succ n ih =>
      intro v3 v4 v5 x hL K1 H locs hP hD hS ls hl
      obtain ⟨y, hM, hk⟩ := on_loopE hL
      have hM : B_X6_isEvenly_9 v1 v2 t_state v3 v4 v5 = some y := hM
      unfold B_X6_isEvenly_9 at hM
      refine lv_iload hx hb dX6_isEvenly_9 (lv_at hl 5 rfl) ?_
      refine lv_aload_n hx hb dX6_isEvenly_11 rfl (lv_at hl 0 rfl) ?_
      obtain ⟨q_1, hq_1, hM⟩ := on_bind hM
      refine on_callV (rest := [.int v5]) (As := []) (st1 := [.int q_1, .int v5]) (C := RX6) (ci := 6) (q0 := 0) (wc := [(h_t, .inr (6, [.ref h_t_state, .ref h_t_images, .ref h_t_isKept, .ref h_t_pad, .int t_said, .int t_leastSize, .int t_leastSet, .int t_found, .ref h_t_row, .ref h_t_isUsed, .ref h_t_table, .int t_rank, .long t_determinant])), (h_t_state, .inl (cI, 4, .inl t_state))]) (wr := []) (wc' := [(h_t, .inr (6, [.ref h_t_state, .ref h_t_images, .ref h_t_isKept, .ref h_t_pad, .int t_said, .int t_leastSize, .int t_leastSet, .int t_found, .ref h_t_row, .ref h_t_isUsed, .ref h_t_table, .int t_rank, .long t_determinant])), (h_t_state, .inl (cI, 4, .inl t_state))]) (wf := [(h_t, .inr (6, [.ref h_t_state, .ref h_t_images, .ref h_t_isKept, .ref h_t_pad, .int t_said, .int t_leastSize, .int t_leastSet, .int t_found, .ref h_t_row, .ref h_t_isUsed, .ref h_t_table, .int t_rank, .long t_determinant])), (h_t_state, .inl (cI, 4, .inl t_state))]) (rt := (some (.int q_1))) ⟨hx, hb, hml, hown, hts⟩ (k_X6_many h_t h_t_state h_t_images h_t_isKept h_t_pad h_t_row h_t_isUsed h_t_table t_said t_leastSize t_leastSet t_found t_rank t_determinant t_state q_1 hq_1) (cwV 0 hts gX6_isEvenly_X6_many rfl rfl rfl ⟨rfl, hdX6_many⟩ ⟨(Nat.le_of_ble_eq_true rfl), (Nat.le_of_ble_eq_true rfl)⟩) hK hN hP hD hS hA [0, 1] [] [0, 1] rfl rfl rfl rfl (by decide) rfl rfl rfl rfl rfl rfl hl.1 rfl (Nat.le_of_ble_eq_true rfl) rfl dX6_isEvenly_12 ⟨Nat.zero_le _, Nat.zero_le _⟩ (fun H locs hP hD hS => ?_)
      refine lv_icmp_ge (tgt := 100) hx hb dX6_isEvenly_15 (by decide) (fun c_2 => ?_) (fun c_2 => ?_)
      · have hM := on_pos c_2 hM
        have hk := on_nxR hM hk
        subst hk
        exact K1 _ _ hP hD hS ls (lv_sub hl [4] rfl)
      · have hM := on_neg c_2 hM
        refine lv_iload hx hb dX6_isEvenly_18 (lv_at hl 5 rfl) ?_
        refine lv_iconst (v := 1) hx hb dX6_isEvenly_20 (by decide) ?_
        refine lv_iadd hx hb dX6_isEvenly_21 ?_
        refine lv_topi (fun v6_3 ev6_3 => ?_)
        have hM := on_letE ev6_3 hM
        refine lv_istore (lv' := [(6, .int v6_3), (0, .ref h_t), (1, .int v1), (2, .int v2), (3, .int v3), (4, .int v4), (5, .int v5)]) hx hb dX6_isEvenly_22 hl (by decide) rfl (fun ls hl => ?_)
        obtain ⟨q_19, hq_19, hM⟩ := on_bind hM
        refine lp_24 v1 v2 v5 on_F v3 v4 v6_3 q_19 hq_19 (fun H locs hP hD hS ls hl => ?_) H locs hP hD hS ls (lv_sub hl [1, 2, 3, 4, 5, 6, 0] rfl)
        obtain ⟨v5_20, ev5_20⟩ : ∃ z : Int32, z = v5 + 1 := ⟨_, rfl⟩
        have hM := on_letE ev5_20 hM
        refine lv_iinc (v := v5_20) (lv' := [(5, .int v5_20), (0, .ref h_t), (1, .int v1), (2, .int v2), (3, .int q_19.1), (4, .int q_19.2)]) hx hb dX6_isEvenly_94 hl (k := 5) rfl (by rw [ev5_20]; rfl) (by decide) rfl (fun ls hl => ?_)
        refine lv_goto (tgt := 9) hx hb dX6_isEvenly_97 (by decide) ?_
        have hk := on_nxL hM hk
        exact ih q_19.1 q_19.2 v5_20 _ hk K1 _ _ hP hD hS ls (lv_sub hl [1, 2, 3, 4, 5, 0] rfl)
  refine lv_bipush (v := -6) hx hb dX6_isEvenly_0 (by decide) ?_
  refine lv_istore_n (lv' := [(3, .int (-6 : Int32)), (0, .ref h_t), (1, .int v1), (2, .int v2)]) hx hb dX6_isEvenly_2 rfl hl (by decide) rfl (fun ls hl => ?_)
  refine lv_iconst (v := 1) hx hb dX6_isEvenly_3 (by decide) ?_
  refine lv_istore (lv' := [(4, .int (1 : Int32)), (3, .int (-6 : Int32)), (0, .ref h_t), (1, .int v1), (2, .int v2)]) hx hb dX6_isEvenly_4 hl (by decide) rfl (fun ls hl => ?_)
  refine lv_iconst (v := 0) hx hb dX6_isEvenly_6 (by decide) ?_
  refine lv_istore (lv' := [(5, .int (0 : Int32)), (4, .int (1 : Int32)), (3, .int (-6 : Int32)), (0, .ref h_t), (1, .int v1), (2, .int v2)]) hx hb dX6_isEvenly_7 hl (by decide) rfl (fun ls hl => ?_)
  obtain ⟨q_21, hq_21, hM⟩ := on_bind hM
  refine lp_9 v1 v2 on_F (-6 : Int32) (1 : Int32) (0 : Int32) q_21 hq_21 (fun H locs hP hD hS ls hl => ?_) H locs hP hD hS ls (lv_sub hl [3, 4, 5, 2, 1, 0] rfl)
  refine lv_iload hx hb dX6_isEvenly_100 (lv_at hl 0 rfl) ?_
  obtain ⟨g_22, hM⟩ := on_gdE hM
  have hM := Option.some.inj hM
  subst hM
  rw [← hQ]
  exact on_zret hx hb hr hlk hP hD hS g_22 dX6_isEvenly_102
abbrev rm_X6_by : Room := { frames := 6, cells := 0, slots := 0, locals := 142 }
set_option maxHeartbeats 4000000 in
set_option maxRecDepth 100000 in
theorem k_X6_by {l : Launch} {D : va_G} {cI cJ cZ cS cA : ClassId} (h_t : Nat) (h_t_state : Nat) (h_t_images : Nat) (h_t_isKept : Nat) (h_t_pad : Nat) (h_t_row : Nat) (h_t_isUsed : Nat) (h_t_table : Nat) (t_said : Int32) (t_leastSize : Int32) (t_leastSet : Int32) (t_found : Int32) (t_rank : Int32) (t_determinant : Int64) (t_state : Nat → Int32) (v1 : Int32) (v2 : Int32) (v3 : Int32) (out : Int32 × Int32 × Int32) (hM : M_X6_by v1 v2 v3 t_leastSet t_found t_state = some out) : on_Con l yX6_by wsX6_by rm_X6_by [.ref h_t, .int v1, .int v2, .int v3] D (on_T cI cJ cZ cS cA) [(h_t, .inr (6, [.ref h_t_state, .ref h_t_images, .ref h_t_isKept, .ref h_t_pad, .int t_said, .int t_leastSize, .int t_leastSet, .int t_found, .ref h_t_row, .ref h_t_isUsed, .ref h_t_table, .int t_rank, .long t_determinant])), (h_t_state, .inl (cI, 4, .inl t_state))] (some (.int out.1)) [(h_t, .inr (6, [.ref h_t_state, .ref h_t_images, .ref h_t_isKept, .ref h_t_pad, .int t_said, .int t_leastSize, .int out.2.1, .int out.2.2, .ref h_t_row, .ref h_t_isUsed, .ref h_t_table, .int t_rank, .long t_determinant])), (h_t_state, .inl (cI, 4, .inl t_state))] := by
  unfold M_X6_by at hM
  refine on_enter (cc := cX6_by) (nL := 7) (rt := (some .int)) (own := RX6) (by decide +kernel) rfl rfl (Nat.le_of_ble_eq_true rfl) ?_
  intro p e s m below meth c A ls hx hb hml hr hlk hts hown hA hK hN H locs hP hD hS hl
  have hl : lv_has ls 7 [(0, .ref h_t), (1, .int v1), (2, .int v2), (3, .int v3)] := hl
  generalize hQ : MQ below (on_Q D (some (.int out.1)) [(h_t, .inr (6, [.ref h_t_state, .ref h_t_images, .ref h_t_isKept, .ref h_t_pad, .int t_said, .int t_leastSize, .int out.2.1, .int out.2.2, .ref h_t_row, .ref h_t_isUsed, .ref h_t_table, .int t_rank, .long t_determinant])), (h_t_state, .inl (cI, 4, .inl t_state))] A) _ s 0 0 A = Q
  generalize hAr : List.toArray ([.ref h_t, .int v1, .int v2, .int v3] : List Value) = args at hts hQ ⊢
  have w1 := hts (.fieldLink RX6 140 "OddNetsModel" "leastSet" "I") (by decide +kernel)
  have w2 : ∀ w ∈ wsX60, w ∈ wsX6_by := by decide +kernel
  have w3 := hts (.fieldLink RX6 143 "OddNetsModel" "found" "I") (by decide +kernel)
  have lp_41 : ∀ (v1 : Int32) (v2 : Int32) (v3 : Int32), ∀ (n : Nat) (v4 : Int32) (v5 : Int32) (t_leastSet : Int32) (t_found : Int32) (x : Int32 × Int32 × Int32), on_loop (fun (s : Int32 × Int32 × Int32 × Int32) => B_X6_by_41 v1 v2 t_state s.1 s.2.1 s.2.2.1 s.2.2.2) n (v4, v5, t_leastSet, t_found) = some x → (∀ (H : Heap) (locs : List Loc), va_P D vwCl [(h_t, .inr (6, [.ref h_t_state, .ref h_t_images, .ref h_t_isKept, .ref h_t_pad, .int t_said, .int t_leastSize, .int x.2.1, .int x.2.2, .ref h_t_row, .ref h_t_isUsed, .ref h_t_table, .int t_rank, .long t_determinant])), (h_t_state, .inl (cI, 4, .inl t_state))] H → va_D A [(h_t, .inr (6, [.ref h_t_state, .ref h_t_images, .ref h_t_isKept, .ref h_t_pad, .int t_said, .int t_leastSize, .int x.2.1, .int x.2.2, .ref h_t_row, .ref h_t_isUsed, .ref h_t_table, .int t_rank, .long t_determinant])), (h_t_state, .inl (cI, 4, .inl t_state))] → va_S A s.heap H locs → ∀ ls : Array Slot, lv_has ls 7 [(0, .ref h_t), (3, .int v3), (4, .int x.1)] → W p l e rm_X6_by s m args below meth c H locs 0 0 Q (F0 m 120 ls [])) → ∀ (H : Heap) (locs : List Loc), va_P D vwCl [(h_t, .inr (6, [.ref h_t_state, .ref h_t_images, .ref h_t_isKept, .ref h_t_pad, .int t_said, .int t_leastSize, .int t_leastSet, .int t_found, .ref h_t_row, .ref h_t_isUsed, .ref h_t_table, .int t_rank, .long t_determinant])), (h_t_state, .inl (cI, 4, .inl t_state))] H → va_D A [(h_t, .inr (6, [.ref h_t_state, .ref h_t_images, .ref h_t_isKept, .ref h_t_pad, .int t_said, .int t_leastSize, .int t_leastSet, .int t_found, .ref h_t_row, .ref h_t_isUsed, .ref h_t_table, .int t_rank, .long t_determinant])), (h_t_state, .inl (cI, 4, .inl t_state))] → va_S A s.heap H locs → ∀ ls : Array Slot, lv_has ls 7 [(0, .ref h_t), (1, .int v1), (2, .int v2), (3, .int v3), (4, .int v4), (5, .int v5)] → W p l e rm_X6_by s m args below meth c H locs 0 0 Q (F0 m 41 ls []) := by
    intro v1 v2 v3
    intro n
    induction n with
    | zero =>
      intro v4 v5 t_leastSet t_found x hL
      exact (on_loop0 hL).elim
    | succ n ih =>
      intro v4 v5 t_leastSet t_found x hL K1 H locs hP hD hS ls hl
      obtain ⟨y, hM, hk⟩ := on_loopE hL
      have hM : B_X6_by_41 v1 v2 t_state v4 v5 t_leastSet t_found = some y := hM
      unfold B_X6_by_41 at hM
      refine lv_iload hx hb dX6_by_41 (lv_at hl 5 rfl) ?_
      refine lv_iconst (v := 1) hx hb dX6_by_43 (by decide) ?_
      refine lv_aload_n hx hb dX6_by_44 rfl (lv_at hl 0 rfl) ?_
      obtain ⟨q_8, hq_8, hM⟩ := on_bind hM
      refine on_callV (rest := [.int (1 : Int32), .int v5]) (As := []) (st1 := [.int q_8, .int (1 : Int32), .int v5]) (C := RX6) (ci := 6) (q0 := 0) (wc := [(h_t, .inr (6, [.ref h_t_state, .ref h_t_images, .ref h_t_isKept, .ref h_t_pad, .int t_said, .int t_leastSize, .int t_leastSet, .int t_found, .ref h_t_row, .ref h_t_isUsed, .ref h_t_table, .int t_rank, .long t_determinant])), (h_t_state, .inl (cI, 4, .inl t_state))]) (wr := []) (wc' := [(h_t, .inr (6, [.ref h_t_state, .ref h_t_images, .ref h_t_isKept, .ref h_t_pad, .int t_said, .int t_leastSize, .int t_leastSet, .int t_found, .ref h_t_row, .ref h_t_isUsed, .ref h_t_table, .int t_rank, .long t_determinant])), (h_t_state, .inl (cI, 4, .inl t_state))]) (wf := [(h_t, .inr (6, [.ref h_t_state, .ref h_t_images, .ref h_t_isKept, .ref h_t_pad, .int t_said, .int t_leastSize, .int t_leastSet, .int t_found, .ref h_t_row, .ref h_t_isUsed, .ref h_t_table, .int t_rank, .long t_determinant])), (h_t_state, .inl (cI, 4, .inl t_state))]) (rt := (some (.int q_8))) ⟨hx, hb, hml, hown, hts⟩ (k_X6_many h_t h_t_state h_t_images h_t_isKept h_t_pad h_t_row h_t_isUsed h_t_table t_said t_leastSize t_leastSet t_found t_rank t_determinant t_state q_8 hq_8) (cwV 0 hts gX6_by_X6_many rfl rfl rfl ⟨rfl, hdX6_many⟩ ⟨(Nat.le_of_ble_eq_true rfl), (Nat.le_of_ble_eq_true rfl)⟩) hK hN hP hD hS hA [0, 1] [] [0, 1] rfl rfl rfl rfl (by decide) rfl rfl rfl rfl rfl rfl hl.1 rfl (Nat.le_of_ble_eq_true rfl) rfl dX6_by_45 ⟨Nat.zero_le _, Nat.zero_le _⟩ (fun H locs hP hD hS => ?_)
      refine lv_ishl hx hb dX6_by_48 ?_
      refine lv_icmp_ge (tgt := 120) hx hb dX6_by_49 (by decide) (fun c_9 => ?_) (fun c_9 => ?_)
      · have hM := on_pos c_9 hM
        have hk := on_nxR hM hk
        subst hk
        exact K1 _ _ hP hD hS ls (lv_sub hl [0, 3, 4] rfl)
      · have hM := on_neg c_9 hM
        refine lv_aload_n hx hb dX6_by_52 rfl (lv_at hl 0 rfl) ?_
        obtain ⟨q_10, hq_10, hM⟩ := on_bind hM
        refine on_callV (rest := []) (As := []) (st1 := [.int q_10]) (C := RX6) (ci := 6) (q0 := 0) (wc := [(h_t, .inr (6, [.ref h_t_state, .ref h_t_images, .ref h_t_isKept, .ref h_t_pad, .int t_said, .int t_leastSize, .int t_leastSet, .int t_found, .ref h_t_row, .ref h_t_isUsed, .ref h_t_table, .int t_rank, .long t_determinant])), (h_t_state, .inl (cI, 4, .inl t_state))]) (wr := []) (wc' := [(h_t, .inr (6, [.ref h_t_state, .ref h_t_images, .ref h_t_isKept, .ref h_t_pad, .int t_said, .int t_leastSize, .int t_leastSet, .int t_found, .ref h_t_row, .ref h_t_isUsed, .ref h_t_table, .int t_rank, .long t_determinant])), (h_t_state, .inl (cI, 4, .inl t_state))]) (wf := [(h_t, .inr (6, [.ref h_t_state, .ref h_t_images, .ref h_t_isKept, .ref h_t_pad, .int t_said, .int t_leastSize, .int t_leastSet, .int t_found, .ref h_t_row, .ref h_t_isUsed, .ref h_t_table, .int t_rank, .long t_determinant])), (h_t_state, .inl (cI, 4, .inl t_state))]) (rt := (some (.int q_10))) ⟨hx, hb, hml, hown, hts⟩ (k_X6_many h_t h_t_state h_t_images h_t_isKept h_t_pad h_t_row h_t_isUsed h_t_table t_said t_leastSize t_leastSet t_found t_rank t_determinant t_state q_10 hq_10) (cwV 0 hts gX6_by_X6_many rfl rfl rfl ⟨rfl, hdX6_many⟩ ⟨(Nat.le_of_ble_eq_true rfl), (Nat.le_of_ble_eq_true rfl)⟩) hK hN hP hD hS hA [0, 1] [] [0, 1] rfl rfl rfl rfl (by decide) rfl rfl rfl rfl rfl rfl hl.1 rfl (Nat.le_of_ble_eq_true rfl) rfl dX6_by_53 ⟨Nat.zero_le _, Nat.zero_le _⟩ (fun H locs hP hD hS => ?_)
        refine lv_aload_n hx hb dX6_by_56 rfl (lv_at hl 0 rfl) ?_
        refine lv_iload_n hx hb dX6_by_57 rfl (lv_at hl 1 rfl) ?_
        obtain ⟨q_11, hq_11, hM⟩ := on_bind hM
        refine on_callV (rest := [.int q_10]) (As := [.int v1]) (st1 := [.int q_11, .int q_10]) (C := RX6) (ci := 6) (q0 := 0) (wc := [(h_t, .inr (6, [.ref h_t_state, .ref h_t_images, .ref h_t_isKept, .ref h_t_pad, .int t_said, .int t_leastSize, .int t_leastSet, .int t_found, .ref h_t_row, .ref h_t_isUsed, .ref h_t_table, .int t_rank, .long t_determinant])), (h_t_state, .inl (cI, 4, .inl t_state))]) (wr := []) (wc' := [(h_t, .inr (6, [.ref h_t_state, .ref h_t_images, .ref h_t_isKept, .ref h_t_pad, .int t_said, .int t_leastSize, .int t_leastSet, .int t_found, .ref h_t_row, .ref h_t_isUsed, .ref h_t_table, .int t_rank, .long t_determinant])), (h_t_state, .inl (cI, 4, .inl t_state))]) (wf := [(h_t, .inr (6, [.ref h_t_state, .ref h_t_images, .ref h_t_isKept, .ref h_t_pad, .int t_said, .int t_leastSize, .int t_leastSet, .int t_found, .ref h_t_row, .ref h_t_isUsed, .ref h_t_table, .int t_rank, .long t_determinant])), (h_t_state, .inl (cI, 4, .inl t_state))]) (rt := (some (.int q_11))) ⟨hx, hb, hml, hown, hts⟩ (k_X6_netOf h_t h_t_state h_t_images h_t_isKept h_t_pad h_t_row h_t_isUsed h_t_table t_said t_leastSize t_leastSet t_found t_rank t_determinant t_state v1 q_11 hq_11) (cwV 1 hts gX6_by_X6_netOf rfl rfl rfl ⟨rfl, hdX6_netOf⟩ ⟨(Nat.le_of_ble_eq_true rfl), (Nat.le_of_ble_eq_true rfl)⟩) hK hN hP hD hS hA [0, 1] [] [0, 1] rfl rfl rfl rfl (by decide) rfl rfl rfl rfl rfl rfl hl.1 rfl (Nat.le_of_ble_eq_true rfl) rfl dX6_by_58 ⟨Nat.zero_le _, Nat.zero_le _⟩ (fun H locs hP hD hS => ?_)
        refine lv_iload hx hb dX6_by_61 (lv_at hl 5 rfl) ?_
        obtain ⟨q_12, hq_12, hM⟩ := on_bind hM
        refine on_callS0 (rest := []) (As := [.int q_10, .int q_11, .int v5]) (st1 := [.int q_12]) ⟨hx, hb, hml, hown, hts⟩ (k_X6_switched q_10 q_11 v5 q_12 hq_12) (va_cwS 3 hts gX6_by_X6_switched rfl rfl rfl hdX6_switched ⟨(Nat.le_of_ble_eq_true rfl), (Nat.le_of_ble_eq_true rfl)⟩) hK hN hP hD hS hA rfl hl.1 rfl (Nat.le_of_ble_eq_true rfl) rfl dX6_by_63 ⟨Nat.zero_le _, Nat.zero_le _⟩ (fun H locs hP hS => ?_)
        refine lv_istore (lv' := [(6, .int q_12), (0, .ref h_t), (1, .int v1), (2, .int v2), (3, .int v3), (4, .int v4), (5, .int v5)]) hx hb dX6_by_66 hl (by decide) rfl (fun ls hl => ?_)
        refine lv_aload_n hx hb dX6_by_68 rfl (lv_at hl 1 rfl) ?_
        refine lv_iload hx hb dX6_by_69 (lv_at hl 0 rfl) ?_
        refine lv_iload_n hx hb dX6_by_71 rfl (lv_at hl 3 rfl) ?_
        obtain ⟨q_13, hq_13, hM⟩ := on_bind hM
        refine on_callV (rest := []) (As := [.int q_12, .int v2]) (st1 := [.int q_13]) (C := RX6) (ci := 6) (q0 := 0) (wc := [(h_t, .inr (6, [.ref h_t_state, .ref h_t_images, .ref h_t_isKept, .ref h_t_pad, .int t_said, .int t_leastSize, .int t_leastSet, .int t_found, .ref h_t_row, .ref h_t_isUsed, .ref h_t_table, .int t_rank, .long t_determinant])), (h_t_state, .inl (cI, 4, .inl t_state))]) (wr := []) (wc' := [(h_t, .inr (6, [.ref h_t_state, .ref h_t_images, .ref h_t_isKept, .ref h_t_pad, .int t_said, .int t_leastSize, .int t_leastSet, .int t_found, .ref h_t_row, .ref h_t_isUsed, .ref h_t_table, .int t_rank, .long t_determinant])), (h_t_state, .inl (cI, 4, .inl t_state))]) (wf := [(h_t, .inr (6, [.ref h_t_state, .ref h_t_images, .ref h_t_isKept, .ref h_t_pad, .int t_said, .int t_leastSize, .int t_leastSet, .int t_found, .ref h_t_row, .ref h_t_isUsed, .ref h_t_table, .int t_rank, .long t_determinant])), (h_t_state, .inl (cI, 4, .inl t_state))]) (rt := (some (.int q_13))) ⟨hx, hb, hml, hown, hts⟩ (k_X6_isBy h_t h_t_state h_t_images h_t_isKept h_t_pad h_t_row h_t_isUsed h_t_table t_said t_leastSize t_leastSet t_found t_rank t_determinant t_state q_12 v2 q_13 hq_13) (cwV 2 hts gX6_by_X6_isBy rfl rfl rfl ⟨rfl, hdX6_isBy⟩ ⟨(Nat.le_of_ble_eq_true rfl), (Nat.le_of_ble_eq_true rfl)⟩) hK hN hP hD hS hA [0, 1] [] [0, 1] rfl rfl rfl rfl (by decide) rfl rfl rfl rfl rfl rfl hl.1 rfl (Nat.le_of_ble_eq_true rfl) rfl dX6_by_72 ⟨Nat.zero_le _, Nat.zero_le _⟩ (fun H locs hP hD hS => ?_)
        refine lv_if_eq (tgt := 114) hx hb dX6_by_75 (by decide) (fun c_14 => ?_) (fun c_14 => ?_)
        · have hM := on_pos c_14 hM
          obtain ⟨v5_15, ev5_15⟩ : ∃ z : Int32, z = v5 + 2 := ⟨_, rfl⟩
          have hM := on_letE ev5_15 hM
          refine lv_iinc (v := v5_15) (lv' := [(5, .int v5_15), (6, .int q_12), (0, .ref h_t), (1, .int v1), (2, .int v2), (3, .int v3), (4, .int v4)]) hx hb dX6_by_114 hl (k := 6) rfl (by rw [ev5_15]; rfl) (by decide) rfl (fun ls hl => ?_)
          refine lv_goto (tgt := 41) hx hb dX6_by_117 (by decide) ?_
          have hk := on_nxL hM hk
          exact ih v4 v5_15 t_leastSet t_found _ hk K1 _ _ hP hD hS ls (lv_sub hl [2, 3, 4, 5, 6, 0] rfl)
        · have hM := on_neg c_14 hM
          refine lv_aload_n hx hb dX6_by_78 rfl (lv_at hl 1 rfl) ?_
          refine lv_iload hx hb dX6_by_79 (lv_at hl 6 rfl) ?_
          obtain ⟨q_16, hq_16, hM⟩ := on_bind hM
          refine on_callV (rest := []) (As := [.int v5]) (st1 := []) (C := RX6) (ci := 6) (q0 := 0) (wc := [(h_t, .inr (6, [.ref h_t_state, .ref h_t_images, .ref h_t_isKept, .ref h_t_pad, .int t_said, .int t_leastSize, .int t_leastSet, .int t_found, .ref h_t_row, .ref h_t_isUsed, .ref h_t_table, .int t_rank, .long t_determinant]))]) (wr := [(h_t_state, .inl (cI, 4, .inl t_state))]) (wc' := [(h_t, .inr (6, [.ref h_t_state, .ref h_t_images, .ref h_t_isKept, .ref h_t_pad, .int t_said, .int t_leastSize, .int q_16.1, .int q_16.2, .ref h_t_row, .ref h_t_isUsed, .ref h_t_table, .int t_rank, .long t_determinant]))]) (wf := [(h_t, .inr (6, [.ref h_t_state, .ref h_t_images, .ref h_t_isKept, .ref h_t_pad, .int t_said, .int t_leastSize, .int q_16.1, .int q_16.2, .ref h_t_row, .ref h_t_isUsed, .ref h_t_table, .int t_rank, .long t_determinant])), (h_t_state, .inl (cI, 4, .inl t_state))]) (rt := none) ⟨hx, hb, hml, hown, hts⟩ (k_X6_find h_t h_t_state h_t_images h_t_isKept h_t_pad h_t_row h_t_isUsed h_t_table t_said t_leastSize t_leastSet t_found t_rank t_determinant v5 q_16 hq_16) (cwV 1 hts gX6_by_X6_find rfl rfl rfl ⟨rfl, hdX6_find⟩ ⟨(Nat.le_of_ble_eq_true rfl), (Nat.le_of_ble_eq_true rfl)⟩) hK hN hP hD hS hA [0] [1] [1, 0] rfl rfl rfl rfl (by decide) rfl rfl rfl rfl rfl rfl hl.1 rfl (Nat.le_of_ble_eq_true rfl) rfl dX6_by_81 ⟨Nat.zero_le _, Nat.zero_le _⟩ (fun H locs hP hD hS => ?_)
          refine lv_iload hx hb dX6_by_84 (lv_at hl 5 rfl) ?_
          refine lv_aload_n hx hb dX6_by_86 rfl (lv_at hl 1 rfl) ?_
          refine lv_iload hx hb dX6_by_87 (lv_at hl 0 rfl) ?_
          refine lv_iconst (v := 0) hx hb dX6_by_89 (by decide) ?_
          obtain ⟨q_17, hq_17, hM⟩ := on_bind hM
          refine on_callV (rest := [.int v4]) (As := [.int q_12, .int (0 : Int32)]) (st1 := [.int q_17, .int v4]) (C := RX6) (ci := 6) (q0 := 0) (wc := [(h_t, .inr (6, [.ref h_t_state, .ref h_t_images, .ref h_t_isKept, .ref h_t_pad, .int t_said, .int t_leastSize, .int q_16.1, .int q_16.2, .ref h_t_row, .ref h_t_isUsed, .ref h_t_table, .int t_rank, .long t_determinant])), (h_t_state, .inl (cI, 4, .inl t_state))]) (wr := []) (wc' := [(h_t, .inr (6, [.ref h_t_state, .ref h_t_images, .ref h_t_isKept, .ref h_t_pad, .int t_said, .int t_leastSize, .int q_16.1, .int q_16.2, .ref h_t_row, .ref h_t_isUsed, .ref h_t_table, .int t_rank, .long t_determinant])), (h_t_state, .inl (cI, 4, .inl t_state))]) (wf := [(h_t, .inr (6, [.ref h_t_state, .ref h_t_images, .ref h_t_isKept, .ref h_t_pad, .int t_said, .int t_leastSize, .int q_16.1, .int q_16.2, .ref h_t_row, .ref h_t_isUsed, .ref h_t_table, .int t_rank, .long t_determinant])), (h_t_state, .inl (cI, 4, .inl t_state))]) (rt := (some (.int q_17))) ⟨hx, hb, hml, hown, hts⟩ (k_X6_isEvenly h_t h_t_state h_t_images h_t_isKept h_t_pad h_t_row h_t_isUsed h_t_table t_said t_leastSize q_16.1 q_16.2 t_rank t_determinant t_state q_12 (0 : Int32) q_17 hq_17) (cwV 2 hts gX6_by_X6_isEvenly rfl rfl rfl ⟨rfl, hdX6_isEvenly⟩ ⟨(Nat.le_of_ble_eq_true rfl), (Nat.le_of_ble_eq_true rfl)⟩) hK hN hP hD hS hA [0, 1] [] [0, 1] rfl rfl rfl rfl (by decide) rfl rfl rfl rfl rfl rfl hl.1 rfl (Nat.le_of_ble_eq_true rfl) rfl dX6_by_90 ⟨Nat.zero_le _, Nat.zero_le _⟩ (fun H locs hP hD hS => ?_)
          refine lv_if_eq (tgt := 110) hx hb dX6_by_93 (by decide) (fun c_18 => ?_) (fun c_18 => ?_)
          · have hM := on_pos c_18 hM
            refine lv_iconst (v := 0) hx hb dX6_by_110 (by decide) ?_
            refine lv_iadd hx hb dX6_by_111 ?_
            refine lv_topi (fun v4_19 ev4_19 => ?_)
            have hM := on_letE ev4_19 hM
            refine lv_istore (lv' := [(4, .int v4_19), (6, .int q_12), (0, .ref h_t), (1, .int v1), (2, .int v2), (3, .int v3), (5, .int v5)]) hx hb dX6_by_112 hl (by decide) rfl (fun ls hl => ?_)
            obtain ⟨v5_20, ev5_20⟩ : ∃ z : Int32, z = v5 + 2 := ⟨_, rfl⟩
            have hM := on_letE ev5_20 hM
            refine lv_iinc (v := v5_20) (lv' := [(5, .int v5_20), (4, .int v4_19), (6, .int q_12), (0, .ref h_t), (1, .int v1), (2, .int v2), (3, .int v3)]) hx hb dX6_by_114 hl (k := 6) rfl (by rw [ev5_20]; rfl) (by decide) rfl (fun ls hl => ?_)
            refine lv_goto (tgt := 41) hx hb dX6_by_117 (by decide) ?_
            have hk := on_nxL hM hk
            exact ih v4_19 v5_20 q_16.1 q_16.2 _ hk K1 _ _ hP hD hS ls (lv_sub hl [3, 4, 5, 6, 1, 0] rfl)
          · have hM := on_neg c_18 hM
            refine lv_aload_n hx hb dX6_by_96 rfl (lv_at hl 1 rfl) ?_
            refine lv_iload hx hb dX6_by_97 (lv_at hl 0 rfl) ?_
            refine lv_iconst (v := 1) hx hb dX6_by_99 (by decide) ?_
            obtain ⟨q_21, hq_21, hM⟩ := on_bind hM
            refine on_callV (rest := [.int v4]) (As := [.int q_12, .int (1 : Int32)]) (st1 := [.int q_21, .int v4]) (C := RX6) (ci := 6) (q0 := 0) (wc := [(h_t, .inr (6, [.ref h_t_state, .ref h_t_images, .ref h_t_isKept, .ref h_t_pad, .int t_said, .int t_leastSize, .int q_16.1, .int q_16.2, .ref h_t_row, .ref h_t_isUsed, .ref h_t_table, .int t_rank, .long t_determinant])), (h_t_state, .inl (cI, 4, .inl t_state))]) (wr := []) (wc' := [(h_t, .inr (6, [.ref h_t_state, .ref h_t_images, .ref h_t_isKept, .ref h_t_pad, .int t_said, .int t_leastSize, .int q_16.1, .int q_16.2, .ref h_t_row, .ref h_t_isUsed, .ref h_t_table, .int t_rank, .long t_determinant])), (h_t_state, .inl (cI, 4, .inl t_state))]) (wf := [(h_t, .inr (6, [.ref h_t_state, .ref h_t_images, .ref h_t_isKept, .ref h_t_pad, .int t_said, .int t_leastSize, .int q_16.1, .int q_16.2, .ref h_t_row, .ref h_t_isUsed, .ref h_t_table, .int t_rank, .long t_determinant])), (h_t_state, .inl (cI, 4, .inl t_state))]) (rt := (some (.int q_21))) ⟨hx, hb, hml, hown, hts⟩ (k_X6_isEvenly h_t h_t_state h_t_images h_t_isKept h_t_pad h_t_row h_t_isUsed h_t_table t_said t_leastSize q_16.1 q_16.2 t_rank t_determinant t_state q_12 (1 : Int32) q_21 hq_21) (cwV 2 hts gX6_by_X6_isEvenly rfl rfl rfl ⟨rfl, hdX6_isEvenly⟩ ⟨(Nat.le_of_ble_eq_true rfl), (Nat.le_of_ble_eq_true rfl)⟩) hK hN hP hD hS hA [0, 1] [] [0, 1] rfl rfl rfl rfl (by decide) rfl rfl rfl rfl rfl rfl hl.1 rfl (Nat.le_of_ble_eq_true rfl) rfl dX6_by_100 ⟨Nat.zero_le _, Nat.zero_le _⟩ (fun H locs hP hD hS => ?_)
            refine lv_if_eq (tgt := 110) hx hb dX6_by_103 (by decide) (fun c_22 => ?_) (fun c_22 => ?_)
            · have hM := on_pos c_22 hM
              refine lv_iconst (v := 0) hx hb dX6_by_110 (by decide) ?_
              refine lv_iadd hx hb dX6_by_111 ?_
              refine lv_topi (fun v4_23 ev4_23 => ?_)
              have hM := on_letE ev4_23 hM
              refine lv_istore (lv' := [(4, .int v4_23), (6, .int q_12), (0, .ref h_t), (1, .int v1), (2, .int v2), (3, .int v3), (5, .int v5)]) hx hb dX6_by_112 hl (by decide) rfl (fun ls hl => ?_)
              obtain ⟨v5_24, ev5_24⟩ : ∃ z : Int32, z = v5 + 2 := ⟨_, rfl⟩
              have hM := on_letE ev5_24 hM
              refine lv_iinc (v := v5_24) (lv' := [(5, .int v5_24), (4, .int v4_23), (6, .int q_12), (0, .ref h_t), (1, .int v1), (2, .int v2), (3, .int v3)]) hx hb dX6_by_114 hl (k := 6) rfl (by rw [ev5_24]; rfl) (by decide) rfl (fun ls hl => ?_)
              refine lv_goto (tgt := 41) hx hb dX6_by_117 (by decide) ?_
              have hk := on_nxL hM hk
              exact ih v4_23 v5_24 q_16.1 q_16.2 _ hk K1 _ _ hP hD hS ls (lv_sub hl [3, 4, 5, 6, 1, 0] rfl)
            · have hM := on_neg c_22 hM
              refine lv_iconst (v := 1) hx hb dX6_by_106 (by decide) ?_
              refine lv_goto (tgt := 111) hx hb dX6_by_107 (by decide) ?_
              refine lv_iadd hx hb dX6_by_111 ?_
              refine lv_topi (fun v4_25 ev4_25 => ?_)
              have hM := on_letE ev4_25 hM
              refine lv_istore (lv' := [(4, .int v4_25), (6, .int q_12), (0, .ref h_t), (1, .int v1), (2, .int v2), (3, .int v3), (5, .int v5)]) hx hb dX6_by_112 hl (by decide) rfl (fun ls hl => ?_)
              obtain ⟨v5_26, ev5_26⟩ : ∃ z : Int32, z = v5 + 2 := ⟨_, rfl⟩
              have hM := on_letE ev5_26 hM
              refine lv_iinc (v := v5_26) (lv' := [(5, .int v5_26), (4, .int v4_25), (6, .int q_12), (0, .ref h_t), (1, .int v1), (2, .int v2), (3, .int v3)]) hx hb dX6_by_114 hl (k := 6) rfl (by rw [ev5_26]; rfl) (by decide) rfl (fun ls hl => ?_)
              refine lv_goto (tgt := 41) hx hb dX6_by_117 (by decide) ?_
              have hk := on_nxL hM hk
              exact ih v4_25 v5_26 q_16.1 q_16.2 _ hk K1 _ _ hP hD hS ls (lv_sub hl [3, 4, 5, 6, 1, 0] rfl)
  refine lv_iload_n hx hb dX6_by_0 rfl (lv_at hl 1 rfl) ?_
  obtain ⟨q_1, hq_1, hM⟩ := on_bind hM
  refine on_callS0 (rest := []) (As := [.int v1]) (st1 := [.int q_1]) ⟨hx, hb, hml, hown, hts⟩ (k_X6_isSlot v1 q_1 hq_1) (va_cwS 1 hts gX6_by_X6_isSlot rfl rfl rfl hdX6_isSlot ⟨(Nat.le_of_ble_eq_true rfl), (Nat.le_of_ble_eq_true rfl)⟩) hK hN hP hD hS hA rfl hl.1 rfl (Nat.le_of_ble_eq_true rfl) rfl dX6_by_1 ⟨Nat.zero_le _, Nat.zero_le _⟩ (fun H locs hP hS => ?_)
  refine lv_if_ne (tgt := 9) hx hb dX6_by_4 (by decide) (fun c_2 => ?_) (fun c_2 => ?_)
  · have hM := on_neg c_2 hM
    refine lv_iload_n hx hb dX6_by_9 rfl (lv_at hl 2 rfl) ?_
    refine lv_iconst (v := 0) hx hb dX6_by_10 (by decide) ?_
    refine lv_bipush (v := 6) hx hb dX6_by_11 (by decide) ?_
    obtain ⟨q_3, hq_3, hM⟩ := on_bind hM
    refine on_callS0 (rest := []) (As := [.int v2, .int (0 : Int32), .int (6 : Int32)]) (st1 := [.int q_3]) ⟨hx, hb, hml, hown, hts⟩ (k_X6_in v2 (0 : Int32) (6 : Int32) q_3 hq_3) (va_cwS 3 hts gX6_by_X6_in rfl rfl rfl hdX6_in ⟨(Nat.le_of_ble_eq_true rfl), (Nat.le_of_ble_eq_true rfl)⟩) hK hN hP hD hS hA rfl hl.1 rfl (Nat.le_of_ble_eq_true rfl) rfl dX6_by_13 ⟨Nat.zero_le _, Nat.zero_le _⟩ (fun H locs hP hS => ?_)
    refine lv_if_eq (tgt := 28) hx hb dX6_by_16 (by decide) (fun c_4 => ?_) (fun c_4 => ?_)
    · have hM := on_pos c_4 hM
      refine lv_bipush (v := -2) hx hb dX6_by_28 (by decide) ?_
      have hM := Option.some.inj hM
      subst hM
      rw [← hQ]
      exact on_iret hx hb hr hlk hP hD hS dX6_by_30
    · have hM := on_neg c_4 hM
      refine lv_iload_n hx hb dX6_by_19 rfl (lv_at hl 3 rfl) ?_
      refine lv_iconst (v := 0) hx hb dX6_by_20 (by decide) ?_
      refine lv_iconst (v := 2) hx hb dX6_by_21 (by decide) ?_
      obtain ⟨q_5, hq_5, hM⟩ := on_bind hM
      refine on_callS0 (rest := []) (As := [.int v3, .int (0 : Int32), .int (2 : Int32)]) (st1 := [.int q_5]) ⟨hx, hb, hml, hown, hts⟩ (k_X6_in v3 (0 : Int32) (2 : Int32) q_5 hq_5) (va_cwS 3 hts gX6_by_X6_in rfl rfl rfl hdX6_in ⟨(Nat.le_of_ble_eq_true rfl), (Nat.le_of_ble_eq_true rfl)⟩) hK hN hP hD hS hA rfl hl.1 rfl (Nat.le_of_ble_eq_true rfl) rfl dX6_by_22 ⟨Nat.zero_le _, Nat.zero_le _⟩ (fun H locs hP hS => ?_)
      refine lv_if_ne (tgt := 31) hx hb dX6_by_25 (by decide) (fun c_6 => ?_) (fun c_6 => ?_)
      · have hM := on_neg c_6 hM
        refine lv_aload_n hx hb dX6_by_31 rfl (lv_at hl 0 rfl) ?_
        obtain ⟨q_7, hq_7, hM⟩ := on_bind hM
        refine on_callV (rest := []) (As := []) (st1 := []) (C := RX6) (ci := 6) (q0 := 0) (wc := [(h_t, .inr (6, [.ref h_t_state, .ref h_t_images, .ref h_t_isKept, .ref h_t_pad, .int t_said, .int t_leastSize, .int t_leastSet, .int t_found, .ref h_t_row, .ref h_t_isUsed, .ref h_t_table, .int t_rank, .long t_determinant]))]) (wr := [(h_t_state, .inl (cI, 4, .inl t_state))]) (wc' := [(h_t, .inr (6, [.ref h_t_state, .ref h_t_images, .ref h_t_isKept, .ref h_t_pad, .int t_said, .int t_leastSize, .int q_7.1, .int q_7.2, .ref h_t_row, .ref h_t_isUsed, .ref h_t_table, .int t_rank, .long t_determinant]))]) (wf := [(h_t, .inr (6, [.ref h_t_state, .ref h_t_images, .ref h_t_isKept, .ref h_t_pad, .int t_said, .int t_leastSize, .int q_7.1, .int q_7.2, .ref h_t_row, .ref h_t_isUsed, .ref h_t_table, .int t_rank, .long t_determinant])), (h_t_state, .inl (cI, 4, .inl t_state))]) (rt := none) ⟨hx, hb, hml, hown, hts⟩ (k_X6_beginFound h_t h_t_state h_t_images h_t_isKept h_t_pad h_t_row h_t_isUsed h_t_table t_said t_leastSize t_leastSet t_found t_rank t_determinant q_7 hq_7) (cwV 0 hts gX6_by_X6_beginFound rfl rfl rfl ⟨rfl, hdX6_beginFound⟩ ⟨(Nat.le_of_ble_eq_true rfl), (Nat.le_of_ble_eq_true rfl)⟩) hK hN hP hD hS hA [0] [1] [1, 0] rfl rfl rfl rfl (by decide) rfl rfl rfl rfl rfl rfl hl.1 rfl (Nat.le_of_ble_eq_true rfl) rfl dX6_by_32 ⟨Nat.zero_le _, Nat.zero_le _⟩ (fun H locs hP hD hS => ?_)
        refine lv_iconst (v := 0) hx hb dX6_by_35 (by decide) ?_
        refine lv_istore (lv' := [(4, .int (0 : Int32)), (0, .ref h_t), (1, .int v1), (2, .int v2), (3, .int v3)]) hx hb dX6_by_36 hl (by decide) rfl (fun ls hl => ?_)
        refine lv_iconst (v := 0) hx hb dX6_by_38 (by decide) ?_
        refine lv_istore (lv' := [(5, .int (0 : Int32)), (4, .int (0 : Int32)), (0, .ref h_t), (1, .int v1), (2, .int v2), (3, .int v3)]) hx hb dX6_by_39 hl (by decide) rfl (fun ls hl => ?_)
        obtain ⟨q_27, hq_27, hM⟩ := on_bind hM
        refine lp_41 v1 v2 v3 on_F (0 : Int32) (0 : Int32) q_7.1 q_7.2 q_27 hq_27 (fun H locs hP hD hS ls hl => ?_) H locs hP hD hS ls (lv_sub hl [2, 3, 4, 5, 1, 0] rfl)
        refine lv_iload_n hx hb dX6_by_120 rfl (lv_at hl 1 rfl) ?_
        refine lv_if_ne (tgt := 131) hx hb dX6_by_121 (by decide) (fun c_28 => ?_) (fun c_28 => ?_)
        · have hM := on_neg c_28 hM
          refine lv_iload_n hx hb dX6_by_131 rfl (lv_at hl 1 rfl) ?_
          refine lv_iconst (v := 1) hx hb dX6_by_132 (by decide) ?_
          refine lv_icmp_ne (tgt := 143) hx hb dX6_by_133 (by decide) (fun c_29 => ?_) (fun c_29 => ?_)
          · have hM := on_neg c_29 hM
            refine lv_iload hx hb dX6_by_143 (lv_at hl 2 rfl) ?_
            have hM := Option.some.inj hM
            subst hM
            rw [← hQ]
            exact on_iret hx hb hr hlk hP hD hS dX6_by_145
          · have hM := on_pos c_29 hM
            refine lv_aload_n hx hb dX6_by_136 rfl (lv_at hl 0 rfl) ?_
            refine va_get (D := D) (ci := 6) (v := .int q_27.2.1) (C := RX6) (T := TX6) (N := 13) hx hb hts w2 hown hK hP 0 rfl rfl 6 (by decide) w1 (fun _ h9 => h9) rfl dX6_by_137 ?_
            refine lv_goto (tgt := 145) hx hb dX6_by_140 (by decide) ?_
            have hM := Option.some.inj hM
            subst hM
            rw [← hQ]
            exact on_iret hx hb hr hlk hP hD hS dX6_by_145
        · have hM := on_pos c_28 hM
          refine lv_aload_n hx hb dX6_by_124 rfl (lv_at hl 0 rfl) ?_
          refine va_get (D := D) (ci := 6) (v := .int q_27.2.2) (C := RX6) (T := TX6) (N := 13) hx hb hts w2 hown hK hP 0 rfl rfl 7 (by decide) w3 (fun _ h9 => h9) rfl dX6_by_125 ?_
          refine lv_goto (tgt := 145) hx hb dX6_by_128 (by decide) ?_
          have hM := Option.some.inj hM
          subst hM
          rw [← hQ]
          exact on_iret hx hb hr hlk hP hD hS dX6_by_145
      · have hM := on_pos c_6 hM
        refine lv_bipush (v := -2) hx hb dX6_by_28 (by decide) ?_
        have hM := Option.some.inj hM
        subst hM
        rw [← hQ]
        exact on_iret hx hb hr hlk hP hD hS dX6_by_30
  · have hM := on_pos c_2 hM
    refine lv_iconst (v := -1) hx hb dX6_by_7 (by decide) ?_
    have hM := Option.some.inj hM
    subst hM
    rw [← hQ]
    exact on_iret hx hb hr hlk hP hD hS dX6_by_8
abbrev rm_X6_orders : Room := { frames := 0, cells := 0, slots := 0, locals := 0 }
set_option maxHeartbeats 4000000 in
set_option maxRecDepth 100000 in
theorem k_X6_orders {l : Launch} {D : va_G} {cI cJ cZ cS cA : ClassId}   (v0 : Int32) (out : Int32) (hM : M_X6_orders v0 = some out) : on_Con l yX6_orders wsX6_orders rm_X6_orders [.int v0] D (on_T cI cJ cZ cS cA) [] (some (.int out)) [] := by
  unfold M_X6_orders at hM
  refine on_enter (cc := cX6_orders) (nL := 3) (rt := (some .int)) (own := RX6) (by decide +kernel) rfl rfl (Nat.le_of_ble_eq_true rfl) ?_
  intro p e s m below meth c A ls hx hb hml hr hlk hts hown hA hK hN H locs hP hD hS hl
  have hl : lv_has ls 3 [(0, .int v0)] := hl
  generalize hQ : MQ below (on_Q D (some (.int out)) [] A) _ s 0 0 A = Q
  generalize hAr : List.toArray ([.int v0] : List Value) = args at hts hQ ⊢
  have lp_4 : ∀ (v0 : Int32), ∀ (n : Nat) (v1 : Int32) (v2 : Int32) (x : Int32), on_loop (fun (s : Int32 × Int32) => B_X6_orders_4 v0 s.1 s.2) n (v1, v2) = some x → (∀ (H : Heap) (locs : List Loc), va_P D vwCl [] H → va_D A [] → va_S A s.heap H locs → ∀ ls : Array Slot, lv_has ls 3 [(1, .int x)] → W p l e rm_X6_orders s m args below meth c H locs 0 0 Q (F0 m 19 ls [])) → ∀ (H : Heap) (locs : List Loc), va_P D vwCl [] H → va_D A [] → va_S A s.heap H locs → ∀ ls : Array Slot, lv_has ls 3 [(0, .int v0), (1, .int v1), (2, .int v2)] → W p l e rm_X6_orders s m args below meth c H locs 0 0 Q (F0 m 4 ls []) := by
    intro v0
    intro n
    induction n with
    | zero =>
      intro v1 v2 x hL
      exact (on_loop0 hL).elim
    | succ n ih =>
      intro v1 v2 x hL K1 H locs hP hD hS ls hl
      obtain ⟨y, hM, hk⟩ := on_loopE hL
      have hM : B_X6_orders_4 v0 v1 v2 = some y := hM
      unfold B_X6_orders_4 at hM
      refine lv_iload_n hx hb dX6_orders_4 rfl (lv_at hl 2 rfl) ?_
      refine lv_iload_n hx hb dX6_orders_5 rfl (lv_at hl 0 rfl) ?_
      refine lv_icmp_gt (tgt := 19) hx hb dX6_orders_6 (by decide) (fun c_1 => ?_) (fun c_1 => ?_)
      · have hM := on_pos c_1 hM
        have hk := on_nxR hM hk
        subst hk
        exact K1 _ _ hP hD hS ls (lv_sub hl [1] rfl)
      · have hM := on_neg c_1 hM
        refine lv_iload_n hx hb dX6_orders_9 rfl (lv_at hl 1 rfl) ?_
        refine lv_iload_n hx hb dX6_orders_10 rfl (lv_at hl 2 rfl) ?_
        refine lv_imul hx hb dX6_orders_11 ?_
        refine lv_topi (fun v1_2 ev1_2 => ?_)
        have hM := on_letE ev1_2 hM
        refine lv_istore_n (lv' := [(1, .int v1_2), (0, .int v0), (2, .int v2)]) hx hb dX6_orders_12 rfl hl (by decide) rfl (fun ls hl => ?_)
        obtain ⟨v2_3, ev2_3⟩ : ∃ z : Int32, z = v2 + 1 := ⟨_, rfl⟩
        have hM := on_letE ev2_3 hM
        refine lv_iinc (v := v2_3) (lv' := [(2, .int v2_3), (1, .int v1_2), (0, .int v0)]) hx hb dX6_orders_13 hl (k := 2) rfl (by rw [ev2_3]; rfl) (by decide) rfl (fun ls hl => ?_)
        refine lv_goto (tgt := 4) hx hb dX6_orders_16 (by decide) ?_
        have hk := on_nxL hM hk
        exact ih v1_2 v2_3 _ hk K1 _ _ hP hD hS ls (lv_sub hl [2, 1, 0] rfl)
  refine lv_iconst (v := 1) hx hb dX6_orders_0 (by decide) ?_
  refine lv_istore_n (lv' := [(1, .int (1 : Int32)), (0, .int v0)]) hx hb dX6_orders_1 rfl hl (by decide) rfl (fun ls hl => ?_)
  refine lv_iconst (v := 2) hx hb dX6_orders_2 (by decide) ?_
  refine lv_istore_n (lv' := [(2, .int (2 : Int32)), (1, .int (1 : Int32)), (0, .int v0)]) hx hb dX6_orders_3 rfl hl (by decide) rfl (fun ls hl => ?_)
  obtain ⟨q_4, hq_4, hM⟩ := on_bind hM
  refine lp_4 v0 on_F (1 : Int32) (2 : Int32) q_4 hq_4 (fun H locs hP hD hS ls hl => ?_) H locs hP hD hS ls (lv_sub hl [2, 1, 0] rfl)
  refine lv_iload_n hx hb dX6_orders_19 rfl (lv_at hl 0 rfl) ?_
  have hM := Option.some.inj hM
  subst hM
  rw [← hQ]
  exact on_iret hx hb hr hlk hP hD hS dX6_orders_20
abbrev rm_X6_layRank : Room := { frames := 0, cells := 0, slots := 0, locals := 0 }
set_option maxHeartbeats 4000000 in
set_option maxRecDepth 100000 in
theorem k_X6_layRank {l : Launch} {D : va_G} {cI cJ cZ cS cA : ClassId} (h_t : Nat) (h_t_state : Nat) (h_t_images : Nat) (h_t_isKept : Nat) (h_t_pad : Nat) (h_t_row : Nat) (h_t_isUsed : Nat) (h_t_table : Nat) (t_said : Int32) (t_leastSize : Int32) (t_leastSet : Int32) (t_found : Int32) (t_rank : Int32) (t_determinant : Int64) (t_row : Nat → Int32) (t_isUsed : Nat → Int32) (v1 : Int32) (v2 : Int32) (out : (Nat → Int32) × (Nat → Int32)) (hM : M_X6_layRank v1 v2 t_row t_isUsed = some out) : on_Con l yX6_layRank wsX6_layRank rm_X6_layRank [.ref h_t, .int v1, .int v2] D (on_T cI cJ cZ cS cA) [(h_t, .inr (6, [.ref h_t_state, .ref h_t_images, .ref h_t_isKept, .ref h_t_pad, .int t_said, .int t_leastSize, .int t_leastSet, .int t_found, .ref h_t_row, .ref h_t_isUsed, .ref h_t_table, .int t_rank, .long t_determinant])), (h_t_row, .inl (cI, 7, .inl t_row)), (h_t_isUsed, .inl (cZ, 7, .inl t_isUsed))] none [(h_t, .inr (6, [.ref h_t_state, .ref h_t_images, .ref h_t_isKept, .ref h_t_pad, .int t_said, .int t_leastSize, .int t_leastSet, .int t_found, .ref h_t_row, .ref h_t_isUsed, .ref h_t_table, .int t_rank, .long t_determinant])), (h_t_row, .inl (cI, 7, .inl out.1)), (h_t_isUsed, .inl (cZ, 7, .inl out.2))] := by
  unfold M_X6_layRank at hM
  refine on_enter (cc := cX6_layRank) (nL := 7) (rt := none) (own := RX6) (by decide +kernel) rfl rfl (Nat.le_of_ble_eq_true rfl) ?_
  intro p e s m below meth c A ls hx hb hml hr hlk hts hown hA hK hN H locs hP hD hS hl
  have hl : lv_has ls 7 [(0, .ref h_t), (1, .int v1), (2, .int v2)] := hl
  generalize hQ : MQ below (on_Q D none [(h_t, .inr (6, [.ref h_t_state, .ref h_t_images, .ref h_t_isKept, .ref h_t_pad, .int t_said, .int t_leastSize, .int t_leastSet, .int t_found, .ref h_t_row, .ref h_t_isUsed, .ref h_t_table, .int t_rank, .long t_determinant])), (h_t_row, .inl (cI, 7, .inl out.1)), (h_t_isUsed, .inl (cZ, 7, .inl out.2))] A) _ s 0 0 A = Q
  generalize hAr : List.toArray ([.ref h_t, .int v1, .int v2] : List Value) = args at hts hQ ⊢
  have w1 := hts (.fieldLink RX6 23 "OddNetsModel" "row" "[I") (by decide +kernel)
  have w2 : ∀ w ∈ wsX60, w ∈ wsX6_layRank := by decide +kernel
  have w3 := hts (.fieldLink RX6 26 "OddNetsModel" "isUsed" "[Z") (by decide +kernel)
  have lp_7 : ∀ (v1 : Int32), ∀ (n : Nat) (v3 : Int32) (v4 : Int32) (t_row : Nat → Int32) (t_isUsed : Nat → Int32) (x : (Nat → Int32) × (Nat → Int32)), on_loop (fun (s : Int32 × Int32 × (Nat → Int32) × (Nat → Int32)) => B_X6_layRank_7 v1 s.1 s.2.1 s.2.2.1 s.2.2.2) n (v3, v4, t_row, t_isUsed) = some x → (∀ (H : Heap) (locs : List Loc), va_P D vwCl [(h_t, .inr (6, [.ref h_t_state, .ref h_t_images, .ref h_t_isKept, .ref h_t_pad, .int t_said, .int t_leastSize, .int t_leastSet, .int t_found, .ref h_t_row, .ref h_t_isUsed, .ref h_t_table, .int t_rank, .long t_determinant])), (h_t_row, .inl (cI, 7, .inl x.1)), (h_t_isUsed, .inl (cZ, 7, .inl x.2))] H → va_D A [(h_t, .inr (6, [.ref h_t_state, .ref h_t_images, .ref h_t_isKept, .ref h_t_pad, .int t_said, .int t_leastSize, .int t_leastSet, .int t_found, .ref h_t_row, .ref h_t_isUsed, .ref h_t_table, .int t_rank, .long t_determinant])), (h_t_row, .inl (cI, 7, .inl x.1)), (h_t_isUsed, .inl (cZ, 7, .inl x.2))] → va_S A s.heap H locs → ∀ ls : Array Slot, lv_has ls 7 [(0, .ref h_t), (1, .int v1)] → W p l e rm_X6_layRank s m args below meth c H locs 0 0 Q (F0 m 46 ls [])) → ∀ (H : Heap) (locs : List Loc), va_P D vwCl [(h_t, .inr (6, [.ref h_t_state, .ref h_t_images, .ref h_t_isKept, .ref h_t_pad, .int t_said, .int t_leastSize, .int t_leastSet, .int t_found, .ref h_t_row, .ref h_t_isUsed, .ref h_t_table, .int t_rank, .long t_determinant])), (h_t_row, .inl (cI, 7, .inl t_row)), (h_t_isUsed, .inl (cZ, 7, .inl t_isUsed))] H → va_D A [(h_t, .inr (6, [.ref h_t_state, .ref h_t_images, .ref h_t_isKept, .ref h_t_pad, .int t_said, .int t_leastSize, .int t_leastSet, .int t_found, .ref h_t_row, .ref h_t_isUsed, .ref h_t_table, .int t_rank, .long t_determinant])), (h_t_row, .inl (cI, 7, .inl t_row)), (h_t_isUsed, .inl (cZ, 7, .inl t_isUsed))] → va_S A s.heap H locs → ∀ ls : Array Slot, lv_has ls 7 [(0, .ref h_t), (1, .int v1), (3, .int v3), (4, .int v4)] → W p l e rm_X6_layRank s m args below meth c H locs 0 0 Q (F0 m 7 ls []) := by
    intro v1
    intro n
    induction n with
    | zero =>
      intro v3 v4 t_row t_isUsed x hL
      exact (on_loop0 hL).elim
    | succ n ih =>
      intro v3 v4 t_row t_isUsed x hL K1 H locs hP hD hS ls hl
      obtain ⟨y, hM, hk⟩ := on_loopE hL
      have hM : B_X6_layRank_7 v1 v3 v4 t_row t_isUsed = some y := hM
      unfold B_X6_layRank_7 at hM
      refine lv_iload hx hb dX6_layRank_7 (lv_at hl 3 rfl) ?_
      refine lv_if_lt (tgt := 46) hx hb dX6_layRank_9 (by decide) (fun c_2 => ?_) (fun c_2 => ?_)
      · have hM := on_pos c_2 hM
        have hk := on_nxR hM hk
        subst hk
        exact K1 _ _ hP hD hS ls (lv_sub hl [0, 1] rfl)
      · have hM := on_neg c_2 hM
        refine lv_aload_n hx hb dX6_layRank_12 rfl (lv_at hl 0 rfl) ?_
        refine va_get (D := D) (ci := 6) (v := .ref h_t_row) (C := RX6) (T := TX6) (N := 13) hx hb hts w2 hown hK hP 0 rfl rfl 8 (by decide) w1 (fun _ h9 => h9) rfl dX6_layRank_13 ?_
        refine lv_iload hx hb dX6_layRank_16 (lv_at hl 3 rfl) ?_
        refine lv_iload_n hx hb dX6_layRank_18 rfl (lv_at hl 2 rfl) ?_
        refine lv_iload_n hx hb dX6_layRank_19 rfl (lv_at hl 1 rfl) ?_
        refine lv_iload hx hb dX6_layRank_20 (lv_at hl 3 rfl) ?_
        refine lv_isub hx hb dX6_layRank_22 ?_
        obtain ⟨g_3, hM⟩ := on_gdE hM
        refine lv_irem hx hb dX6_layRank_23 (on_nzE g_3) ?_
        obtain ⟨g_4, hM⟩ := on_gdE hM
        refine va_iast hx hb hK hP hD hS 1 0 rfl rfl (on_ixE g_4) dX6_layRank_24 (fun H locs hP hD hS => ?_)
        have hP : va_P D vwCl [(h_t, .inr (6, [.ref h_t_state, .ref h_t_images, .ref h_t_isKept, .ref h_t_pad, .int t_said, .int t_leastSize, .int t_leastSet, .int t_found, .ref h_t_row, .ref h_t_isUsed, .ref h_t_table, .int t_rank, .long t_determinant])), (h_t_row, .inl (cI, 7, .inl (upd t_row (Int32.toNatClampNeg v4) (v3 - v3 / (v1 - v4) * (v1 - v4))))), (h_t_isUsed, .inl (cZ, 7, .inl t_isUsed))] H := hP
        have hD : va_D A [(h_t, .inr (6, [.ref h_t_state, .ref h_t_images, .ref h_t_isKept, .ref h_t_pad, .int t_said, .int t_leastSize, .int t_leastSet, .int t_found, .ref h_t_row, .ref h_t_isUsed, .ref h_t_table, .int t_rank, .long t_determinant])), (h_t_row, .inl (cI, 7, .inl (upd t_row (Int32.toNatClampNeg v4) (v3 - v3 / (v1 - v4) * (v1 - v4))))), (h_t_isUsed, .inl (cZ, 7, .inl t_isUsed))] := hD
        refine lv_iload_n hx hb dX6_layRank_25 rfl (lv_at hl 2 rfl) ?_
        refine lv_iload_n hx hb dX6_layRank_26 rfl (lv_at hl 1 rfl) ?_
        refine lv_iload hx hb dX6_layRank_27 (lv_at hl 3 rfl) ?_
        refine lv_isub hx hb dX6_layRank_29 ?_
        obtain ⟨g_5, hM⟩ := on_gdE hM
        refine lv_idiv hx hb dX6_layRank_30 (on_nzE g_5) ?_
        refine lv_topi (fun v3_6 ev3_6 => ?_)
        have hM := on_letE ev3_6 hM
        refine lv_istore_n (lv' := [(3, .int v3_6), (0, .ref h_t), (1, .int v1), (4, .int v4)]) hx hb dX6_layRank_31 rfl hl (by decide) rfl (fun ls hl => ?_)
        refine lv_aload_n hx hb dX6_layRank_32 rfl (lv_at hl 1 rfl) ?_
        refine va_get (D := D) (ci := 6) (v := .ref h_t_isUsed) (C := RX6) (T := TX6) (N := 13) hx hb hts w2 hown hK hP 0 rfl rfl 9 (by decide) w3 (fun _ h9 => h9) rfl dX6_layRank_33 ?_
        refine lv_iload hx hb dX6_layRank_36 (lv_at hl 3 rfl) ?_
        refine lv_iconst (v := 0) hx hb dX6_layRank_38 (by decide) ?_
        obtain ⟨g_7, hM⟩ := on_gdE hM
        refine va_zast hx hb hK hP hD hS 2 2 rfl rfl (on_ixE g_7) dX6_layRank_39 (fun H locs hP hD hS => ?_)
        have hP : va_P D vwCl [(h_t, .inr (6, [.ref h_t_state, .ref h_t_images, .ref h_t_isKept, .ref h_t_pad, .int t_said, .int t_leastSize, .int t_leastSet, .int t_found, .ref h_t_row, .ref h_t_isUsed, .ref h_t_table, .int t_rank, .long t_determinant])), (h_t_row, .inl (cI, 7, .inl (upd t_row (Int32.toNatClampNeg v4) (v3 - v3 / (v1 - v4) * (v1 - v4))))), (h_t_isUsed, .inl (cZ, 7, .inl (upd t_isUsed (Int32.toNatClampNeg v4) (vp_nar .boolean (0 : Int32)))))] H := hP
        have hD : va_D A [(h_t, .inr (6, [.ref h_t_state, .ref h_t_images, .ref h_t_isKept, .ref h_t_pad, .int t_said, .int t_leastSize, .int t_leastSet, .int t_found, .ref h_t_row, .ref h_t_isUsed, .ref h_t_table, .int t_rank, .long t_determinant])), (h_t_row, .inl (cI, 7, .inl (upd t_row (Int32.toNatClampNeg v4) (v3 - v3 / (v1 - v4) * (v1 - v4))))), (h_t_isUsed, .inl (cZ, 7, .inl (upd t_isUsed (Int32.toNatClampNeg v4) (vp_nar .boolean (0 : Int32)))))] := hD
        obtain ⟨v4_8, ev4_8⟩ : ∃ z : Int32, z = v4 + (-1) := ⟨_, rfl⟩
        have hM := on_letE ev4_8 hM
        refine lv_iinc (v := v4_8) (lv' := [(4, .int v4_8), (3, .int v3_6), (0, .ref h_t), (1, .int v1)]) hx hb dX6_layRank_40 hl (k := 3) rfl (by rw [ev4_8]; rfl) (by decide) rfl (fun ls hl => ?_)
        refine lv_goto (tgt := 7) hx hb dX6_layRank_43 (by decide) ?_
        have hk := on_nxL hM hk
        exact ih v3_6 v4_8 (upd t_row (Int32.toNatClampNeg v4) (v3 - v3 / (v1 - v4) * (v1 - v4))) (upd t_isUsed (Int32.toNatClampNeg v4) (vp_nar .boolean (0 : Int32))) _ hk K1 _ _ hP hD hS ls (lv_sub hl [2, 3, 1, 0] rfl)
  have lp_67 : ∀ (v1 : Int32) (v4 : Int32) (t_row : Nat → Int32) (t_isUsed : Nat → Int32), ∀ (n : Nat) (v5 : Int32) (v6 : Int32) (x : Int32), on_loop (fun (s : Int32 × Int32) => B_X6_layRank_67 t_isUsed s.1 s.2) n (v5, v6) = some x → (∀ (H : Heap) (locs : List Loc), va_P D vwCl [(h_t, .inr (6, [.ref h_t_state, .ref h_t_images, .ref h_t_isKept, .ref h_t_pad, .int t_said, .int t_leastSize, .int t_leastSet, .int t_found, .ref h_t_row, .ref h_t_isUsed, .ref h_t_table, .int t_rank, .long t_determinant])), (h_t_row, .inl (cI, 7, .inl t_row)), (h_t_isUsed, .inl (cZ, 7, .inl t_isUsed))] H → va_D A [(h_t, .inr (6, [.ref h_t_state, .ref h_t_images, .ref h_t_isKept, .ref h_t_pad, .int t_said, .int t_leastSize, .int t_leastSet, .int t_found, .ref h_t_row, .ref h_t_isUsed, .ref h_t_table, .int t_rank, .long t_determinant])), (h_t_row, .inl (cI, 7, .inl t_row)), (h_t_isUsed, .inl (cZ, 7, .inl t_isUsed))] → va_S A s.heap H locs → ∀ ls : Array Slot, lv_has ls 7 [(0, .ref h_t), (1, .int v1), (4, .int v4), (6, .int x)] → W p l e rm_X6_layRank s m args below meth c H locs 0 0 Q (F0 m 108 ls [])) → ∀ (H : Heap) (locs : List Loc), va_P D vwCl [(h_t, .inr (6, [.ref h_t_state, .ref h_t_images, .ref h_t_isKept, .ref h_t_pad, .int t_said, .int t_leastSize, .int t_leastSet, .int t_found, .ref h_t_row, .ref h_t_isUsed, .ref h_t_table, .int t_rank, .long t_determinant])), (h_t_row, .inl (cI, 7, .inl t_row)), (h_t_isUsed, .inl (cZ, 7, .inl t_isUsed))] H → va_D A [(h_t, .inr (6, [.ref h_t_state, .ref h_t_images, .ref h_t_isKept, .ref h_t_pad, .int t_said, .int t_leastSize, .int t_leastSet, .int t_found, .ref h_t_row, .ref h_t_isUsed, .ref h_t_table, .int t_rank, .long t_determinant])), (h_t_row, .inl (cI, 7, .inl t_row)), (h_t_isUsed, .inl (cZ, 7, .inl t_isUsed))] → va_S A s.heap H locs → ∀ ls : Array Slot, lv_has ls 7 [(0, .ref h_t), (1, .int v1), (4, .int v4), (5, .int v5), (6, .int v6)] → W p l e rm_X6_layRank s m args below meth c H locs 0 0 Q (F0 m 67 ls []) := by
    intro v1 v4 t_row t_isUsed
    intro n
    induction n with
    | zero =>
      intro v5 v6 x hL
      exact (on_loop0 hL).elim
    | succ n ih =>
      intro v5 v6 x hL K1 H locs hP hD hS ls hl
      obtain ⟨y, hM, hk⟩ := on_loopE hL
      have hM : B_X6_layRank_67 t_isUsed v5 v6 = some y := hM
      unfold B_X6_layRank_67 at hM
      refine lv_aload_n hx hb dX6_layRank_67 rfl (lv_at hl 0 rfl) ?_
      refine va_get (D := D) (ci := 6) (v := .ref h_t_isUsed) (C := RX6) (T := TX6) (N := 13) hx hb hts w2 hown hK hP 0 rfl rfl 9 (by decide) w3 (fun _ h9 => h9) rfl dX6_layRank_68 ?_
      refine lv_iload hx hb dX6_layRank_71 (lv_at hl 4 rfl) ?_
      obtain ⟨g_13, hM⟩ := on_gdE hM
      refine va_zald hx hb hK hP 2 2 rfl rfl (on_ixE g_13) dX6_layRank_73 ?_
      refine lv_if_ne (tgt := 82) hx hb dX6_layRank_74 (by decide) (fun c_14 => ?_) (fun c_14 => ?_)
      · have hM := on_neg c_14 hM
        refine lv_iload hx hb dX6_layRank_82 (lv_at hl 3 rfl) ?_
        refine lv_aload_n hx hb dX6_layRank_84 rfl (lv_at hl 0 rfl) ?_
        refine va_get (D := D) (ci := 6) (v := .ref h_t_isUsed) (C := RX6) (T := TX6) (N := 13) hx hb hts w2 hown hK hP 0 rfl rfl 9 (by decide) w3 (fun _ h9 => h9) rfl dX6_layRank_85 ?_
        refine lv_iload hx hb dX6_layRank_88 (lv_at hl 4 rfl) ?_
        obtain ⟨g_15, hM⟩ := on_gdE hM
        refine va_zald hx hb hK hP 2 2 rfl rfl (on_ixE g_15) dX6_layRank_90 ?_
        refine lv_if_eq (tgt := 98) hx hb dX6_layRank_91 (by decide) (fun c_16 => ?_) (fun c_16 => ?_)
        · have hM := on_pos c_16 hM
          refine lv_iconst (v := 1) hx hb dX6_layRank_98 (by decide) ?_
          refine lv_isub hx hb dX6_layRank_99 ?_
          refine lv_topi (fun v5_17 ev5_17 => ?_)
          have hM := on_letE ev5_17 hM
          refine lv_istore (lv' := [(5, .int v5_17), (0, .ref h_t), (1, .int v1), (4, .int v4), (6, .int v6)]) hx hb dX6_layRank_100 hl (by decide) rfl (fun ls hl => ?_)
          obtain ⟨v6_18, ev6_18⟩ : ∃ z : Int32, z = v6 + 1 := ⟨_, rfl⟩
          have hM := on_letE ev6_18 hM
          refine lv_iinc (v := v6_18) (lv' := [(6, .int v6_18), (5, .int v5_17), (0, .ref h_t), (1, .int v1), (4, .int v4)]) hx hb dX6_layRank_102 hl (k := 4) rfl (by rw [ev6_18]; rfl) (by decide) rfl (fun ls hl => ?_)
          refine lv_goto (tgt := 67) hx hb dX6_layRank_105 (by decide) ?_
          have hk := on_nxL hM hk
          exact ih v5_17 v6_18 _ hk K1 _ _ hP hD hS ls (lv_sub hl [2, 3, 4, 1, 0] rfl)
        · have hM := on_neg c_16 hM
          refine lv_iconst (v := 0) hx hb dX6_layRank_94 (by decide) ?_
          refine lv_goto (tgt := 99) hx hb dX6_layRank_95 (by decide) ?_
          refine lv_isub hx hb dX6_layRank_99 ?_
          refine lv_topi (fun v5_19 ev5_19 => ?_)
          have hM := on_letE ev5_19 hM
          refine lv_istore (lv' := [(5, .int v5_19), (0, .ref h_t), (1, .int v1), (4, .int v4), (6, .int v6)]) hx hb dX6_layRank_100 hl (by decide) rfl (fun ls hl => ?_)
          obtain ⟨v6_20, ev6_20⟩ : ∃ z : Int32, z = v6 + 1 := ⟨_, rfl⟩
          have hM := on_letE ev6_20 hM
          refine lv_iinc (v := v6_20) (lv' := [(6, .int v6_20), (5, .int v5_19), (0, .ref h_t), (1, .int v1), (4, .int v4)]) hx hb dX6_layRank_102 hl (k := 4) rfl (by rw [ev6_20]; rfl) (by decide) rfl (fun ls hl => ?_)
          refine lv_goto (tgt := 67) hx hb dX6_layRank_105 (by decide) ?_
          have hk := on_nxL hM hk
          exact ih v5_19 v6_20 _ hk K1 _ _ hP hD hS ls (lv_sub hl [2, 3, 4, 1, 0] rfl)
      · have hM := on_pos c_14 hM
        refine lv_iload hx hb dX6_layRank_77 (lv_at hl 3 rfl) ?_
        refine lv_if_le (tgt := 108) hx hb dX6_layRank_79 (by decide) (fun c_21 => ?_) (fun c_21 => ?_)
        · have hM := on_pos c_21 hM
          have hk := on_nxR hM hk
          subst hk
          exact K1 _ _ hP hD hS ls (lv_sub hl [0, 1, 2, 4] rfl)
        · have hM := on_neg c_21 hM
          refine lv_iload hx hb dX6_layRank_82 (lv_at hl 3 rfl) ?_
          refine lv_aload_n hx hb dX6_layRank_84 rfl (lv_at hl 0 rfl) ?_
          refine va_get (D := D) (ci := 6) (v := .ref h_t_isUsed) (C := RX6) (T := TX6) (N := 13) hx hb hts w2 hown hK hP 0 rfl rfl 9 (by decide) w3 (fun _ h9 => h9) rfl dX6_layRank_85 ?_
          refine lv_iload hx hb dX6_layRank_88 (lv_at hl 4 rfl) ?_
          obtain ⟨g_22, hM⟩ := on_gdE hM
          refine va_zald hx hb hK hP 2 2 rfl rfl (on_ixE g_22) dX6_layRank_90 ?_
          refine lv_if_eq (tgt := 98) hx hb dX6_layRank_91 (by decide) (fun c_23 => ?_) (fun c_23 => ?_)
          · have hM := on_pos c_23 hM
            refine lv_iconst (v := 1) hx hb dX6_layRank_98 (by decide) ?_
            refine lv_isub hx hb dX6_layRank_99 ?_
            refine lv_topi (fun v5_24 ev5_24 => ?_)
            have hM := on_letE ev5_24 hM
            refine lv_istore (lv' := [(5, .int v5_24), (0, .ref h_t), (1, .int v1), (4, .int v4), (6, .int v6)]) hx hb dX6_layRank_100 hl (by decide) rfl (fun ls hl => ?_)
            obtain ⟨v6_25, ev6_25⟩ : ∃ z : Int32, z = v6 + 1 := ⟨_, rfl⟩
            have hM := on_letE ev6_25 hM
            refine lv_iinc (v := v6_25) (lv' := [(6, .int v6_25), (5, .int v5_24), (0, .ref h_t), (1, .int v1), (4, .int v4)]) hx hb dX6_layRank_102 hl (k := 4) rfl (by rw [ev6_25]; rfl) (by decide) rfl (fun ls hl => ?_)
            refine lv_goto (tgt := 67) hx hb dX6_layRank_105 (by decide) ?_
            have hk := on_nxL hM hk
            exact ih v5_24 v6_25 _ hk K1 _ _ hP hD hS ls (lv_sub hl [2, 3, 4, 1, 0] rfl)
          · have hM := on_neg c_23 hM
            refine lv_iconst (v := 0) hx hb dX6_layRank_94 (by decide) ?_
            refine lv_goto (tgt := 99) hx hb dX6_layRank_95 (by decide) ?_
            refine lv_isub hx hb dX6_layRank_99 ?_
            refine lv_topi (fun v5_26 ev5_26 => ?_)
            have hM := on_letE ev5_26 hM
            refine lv_istore (lv' := [(5, .int v5_26), (0, .ref h_t), (1, .int v1), (4, .int v4), (6, .int v6)]) hx hb dX6_layRank_100 hl (by decide) rfl (fun ls hl => ?_)
            obtain ⟨v6_27, ev6_27⟩ : ∃ z : Int32, z = v6 + 1 := ⟨_, rfl⟩
            have hM := on_letE ev6_27 hM
            refine lv_iinc (v := v6_27) (lv' := [(6, .int v6_27), (5, .int v5_26), (0, .ref h_t), (1, .int v1), (4, .int v4)]) hx hb dX6_layRank_102 hl (k := 4) rfl (by rw [ev6_27]; rfl) (by decide) rfl (fun ls hl => ?_)
            refine lv_goto (tgt := 67) hx hb dX6_layRank_105 (by decide) ?_
            have hk := on_nxL hM hk
            exact ih v5_26 v6_27 _ hk K1 _ _ hP hD hS ls (lv_sub hl [2, 3, 4, 1, 0] rfl)
  have lp_49 : ∀ (v1 : Int32), ∀ (n : Nat) (v4 : Int32) (t_row : Nat → Int32) (t_isUsed : Nat → Int32) (x : (Nat → Int32) × (Nat → Int32)), on_loop (fun (s : Int32 × (Nat → Int32) × (Nat → Int32)) => B_X6_layRank_49 v1 s.1 s.2.1 s.2.2) n (v4, t_row, t_isUsed) = some x → (∀ (H : Heap) (locs : List Loc), va_P D vwCl [(h_t, .inr (6, [.ref h_t_state, .ref h_t_images, .ref h_t_isKept, .ref h_t_pad, .int t_said, .int t_leastSize, .int t_leastSet, .int t_found, .ref h_t_row, .ref h_t_isUsed, .ref h_t_table, .int t_rank, .long t_determinant])), (h_t_row, .inl (cI, 7, .inl x.1)), (h_t_isUsed, .inl (cZ, 7, .inl x.2))] H → va_D A [(h_t, .inr (6, [.ref h_t_state, .ref h_t_images, .ref h_t_isKept, .ref h_t_pad, .int t_said, .int t_leastSize, .int t_leastSet, .int t_found, .ref h_t_row, .ref h_t_isUsed, .ref h_t_table, .int t_rank, .long t_determinant])), (h_t_row, .inl (cI, 7, .inl x.1)), (h_t_isUsed, .inl (cZ, 7, .inl x.2))] → va_S A s.heap H locs → ∀ ls : Array Slot, lv_has ls 7 [] → W p l e rm_X6_layRank s m args below meth c H locs 0 0 Q (F0 m 131 ls [])) → ∀ (H : Heap) (locs : List Loc), va_P D vwCl [(h_t, .inr (6, [.ref h_t_state, .ref h_t_images, .ref h_t_isKept, .ref h_t_pad, .int t_said, .int t_leastSize, .int t_leastSet, .int t_found, .ref h_t_row, .ref h_t_isUsed, .ref h_t_table, .int t_rank, .long t_determinant])), (h_t_row, .inl (cI, 7, .inl t_row)), (h_t_isUsed, .inl (cZ, 7, .inl t_isUsed))] H → va_D A [(h_t, .inr (6, [.ref h_t_state, .ref h_t_images, .ref h_t_isKept, .ref h_t_pad, .int t_said, .int t_leastSize, .int t_leastSet, .int t_found, .ref h_t_row, .ref h_t_isUsed, .ref h_t_table, .int t_rank, .long t_determinant])), (h_t_row, .inl (cI, 7, .inl t_row)), (h_t_isUsed, .inl (cZ, 7, .inl t_isUsed))] → va_S A s.heap H locs → ∀ ls : Array Slot, lv_has ls 7 [(0, .ref h_t), (1, .int v1), (4, .int v4)] → W p l e rm_X6_layRank s m args below meth c H locs 0 0 Q (F0 m 49 ls []) := by
    intro v1
    intro n
    induction n with
    | zero =>
      intro v4 t_row t_isUsed x hL
      exact (on_loop0 hL).elim
    | succ n ih =>
      intro v4 t_row t_isUsed x hL K1 H locs hP hD hS ls hl
      obtain ⟨y, hM, hk⟩ := on_loopE hL
      have hM : B_X6_layRank_49 v1 v4 t_row t_isUsed = some y := hM
      unfold B_X6_layRank_49 at hM
      refine lv_iload hx hb dX6_layRank_49 (lv_at hl 2 rfl) ?_
      refine lv_iload_n hx hb dX6_layRank_51 rfl (lv_at hl 1 rfl) ?_
      refine lv_icmp_ge (tgt := 131) hx hb dX6_layRank_52 (by decide) (fun c_10 => ?_) (fun c_10 => ?_)
      · have hM := on_pos c_10 hM
        have hk := on_nxR hM hk
        subst hk
        exact K1 _ _ hP hD hS ls (lv_sub hl [] rfl)
      · have hM := on_neg c_10 hM
        refine lv_aload_n hx hb dX6_layRank_55 rfl (lv_at hl 0 rfl) ?_
        refine va_get (D := D) (ci := 6) (v := .ref h_t_row) (C := RX6) (T := TX6) (N := 13) hx hb hts w2 hown hK hP 0 rfl rfl 8 (by decide) w1 (fun _ h9 => h9) rfl dX6_layRank_56 ?_
        refine lv_iload hx hb dX6_layRank_59 (lv_at hl 2 rfl) ?_
        obtain ⟨g_11, hM⟩ := on_gdE hM
        refine va_iald hx hb hK hP 1 0 rfl rfl (on_ixE g_11) dX6_layRank_61 ?_
        refine lv_topi (fun v5_12 ev5_12 => ?_)
        have hM := on_letE ev5_12 hM
        refine lv_istore (lv' := [(5, .int v5_12), (0, .ref h_t), (1, .int v1), (4, .int v4)]) hx hb dX6_layRank_62 hl (by decide) rfl (fun ls hl => ?_)
        refine lv_iconst (v := 0) hx hb dX6_layRank_64 (by decide) ?_
        refine lv_istore (lv' := [(6, .int (0 : Int32)), (5, .int v5_12), (0, .ref h_t), (1, .int v1), (4, .int v4)]) hx hb dX6_layRank_65 hl (by decide) rfl (fun ls hl => ?_)
        obtain ⟨q_28, hq_28, hM⟩ := on_bind hM
        refine lp_67 v1 v4 t_row t_isUsed on_F v5_12 (0 : Int32) q_28 hq_28 (fun H locs hP hD hS ls hl => ?_) H locs hP hD hS ls (lv_sub hl [2, 3, 4, 1, 0] rfl)
        refine lv_aload_n hx hb dX6_layRank_108 rfl (lv_at hl 0 rfl) ?_
        refine va_get (D := D) (ci := 6) (v := .ref h_t_isUsed) (C := RX6) (T := TX6) (N := 13) hx hb hts w2 hown hK hP 0 rfl rfl 9 (by decide) w3 (fun _ h9 => h9) rfl dX6_layRank_109 ?_
        refine lv_iload hx hb dX6_layRank_112 (lv_at hl 3 rfl) ?_
        refine lv_iconst (v := 1) hx hb dX6_layRank_114 (by decide) ?_
        obtain ⟨g_29, hM⟩ := on_gdE hM
        refine va_zast hx hb hK hP hD hS 2 2 rfl rfl (on_ixE g_29) dX6_layRank_115 (fun H locs hP hD hS => ?_)
        have hP : va_P D vwCl [(h_t, .inr (6, [.ref h_t_state, .ref h_t_images, .ref h_t_isKept, .ref h_t_pad, .int t_said, .int t_leastSize, .int t_leastSet, .int t_found, .ref h_t_row, .ref h_t_isUsed, .ref h_t_table, .int t_rank, .long t_determinant])), (h_t_row, .inl (cI, 7, .inl t_row)), (h_t_isUsed, .inl (cZ, 7, .inl (upd t_isUsed (Int32.toNatClampNeg q_28) (vp_nar .boolean (1 : Int32)))))] H := hP
        have hD : va_D A [(h_t, .inr (6, [.ref h_t_state, .ref h_t_images, .ref h_t_isKept, .ref h_t_pad, .int t_said, .int t_leastSize, .int t_leastSet, .int t_found, .ref h_t_row, .ref h_t_isUsed, .ref h_t_table, .int t_rank, .long t_determinant])), (h_t_row, .inl (cI, 7, .inl t_row)), (h_t_isUsed, .inl (cZ, 7, .inl (upd t_isUsed (Int32.toNatClampNeg q_28) (vp_nar .boolean (1 : Int32)))))] := hD
        refine lv_aload_n hx hb dX6_layRank_116 rfl (lv_at hl 0 rfl) ?_
        refine va_get (D := D) (ci := 6) (v := .ref h_t_row) (C := RX6) (T := TX6) (N := 13) hx hb hts w2 hown hK hP 0 rfl rfl 8 (by decide) w1 (fun _ h9 => h9) rfl dX6_layRank_117 ?_
        refine lv_iload hx hb dX6_layRank_120 (lv_at hl 2 rfl) ?_
        refine lv_iload hx hb dX6_layRank_122 (lv_at hl 3 rfl) ?_
        obtain ⟨g_30, hM⟩ := on_gdE hM
        refine va_iast hx hb hK hP hD hS 1 0 rfl rfl (on_ixE g_30) dX6_layRank_124 (fun H locs hP hD hS => ?_)
        have hP : va_P D vwCl [(h_t, .inr (6, [.ref h_t_state, .ref h_t_images, .ref h_t_isKept, .ref h_t_pad, .int t_said, .int t_leastSize, .int t_leastSet, .int t_found, .ref h_t_row, .ref h_t_isUsed, .ref h_t_table, .int t_rank, .long t_determinant])), (h_t_row, .inl (cI, 7, .inl (upd t_row (Int32.toNatClampNeg v4) q_28))), (h_t_isUsed, .inl (cZ, 7, .inl (upd t_isUsed (Int32.toNatClampNeg q_28) (vp_nar .boolean (1 : Int32)))))] H := hP
        have hD : va_D A [(h_t, .inr (6, [.ref h_t_state, .ref h_t_images, .ref h_t_isKept, .ref h_t_pad, .int t_said, .int t_leastSize, .int t_leastSet, .int t_found, .ref h_t_row, .ref h_t_isUsed, .ref h_t_table, .int t_rank, .long t_determinant])), (h_t_row, .inl (cI, 7, .inl (upd t_row (Int32.toNatClampNeg v4) q_28))), (h_t_isUsed, .inl (cZ, 7, .inl (upd t_isUsed (Int32.toNatClampNeg q_28) (vp_nar .boolean (1 : Int32)))))] := hD
        obtain ⟨v4_31, ev4_31⟩ : ∃ z : Int32, z = v4 + 1 := ⟨_, rfl⟩
        have hM := on_letE ev4_31 hM
        refine lv_iinc (v := v4_31) (lv' := [(4, .int v4_31), (0, .ref h_t), (1, .int v1), (6, .int q_28)]) hx hb dX6_layRank_125 hl (k := 2) rfl (by rw [ev4_31]; rfl) (by decide) rfl (fun ls hl => ?_)
        refine lv_goto (tgt := 49) hx hb dX6_layRank_128 (by decide) ?_
        have hk := on_nxL hM hk
        exact ih v4_31 (upd t_row (Int32.toNatClampNeg v4) q_28) (upd t_isUsed (Int32.toNatClampNeg q_28) (vp_nar .boolean (1 : Int32))) _ hk K1 _ _ hP hD hS ls (lv_sub hl [1, 2, 0] rfl)
  refine lv_iload_n hx hb dX6_layRank_0 rfl (lv_at hl 2 rfl) ?_
  refine lv_istore_n (lv' := [(3, .int v2), (0, .ref h_t), (1, .int v1), (2, .int v2)]) hx hb dX6_layRank_1 rfl hl (by decide) rfl (fun ls hl => ?_)
  refine lv_iload_n hx hb dX6_layRank_2 rfl (lv_at hl 2 rfl) ?_
  refine lv_iconst (v := 1) hx hb dX6_layRank_3 (by decide) ?_
  refine lv_isub hx hb dX6_layRank_4 ?_
  refine lv_topi (fun v4_1 ev4_1 => ?_)
  have hM := on_letE ev4_1 hM
  refine lv_istore (lv' := [(4, .int v4_1), (3, .int v2), (0, .ref h_t), (1, .int v1), (2, .int v2)]) hx hb dX6_layRank_5 hl (by decide) rfl (fun ls hl => ?_)
  obtain ⟨q_9, hq_9, hM⟩ := on_bind hM
  refine lp_7 v1 on_F v2 v4_1 t_row t_isUsed q_9 hq_9 (fun H locs hP hD hS ls hl => ?_) H locs hP hD hS ls (lv_sub hl [2, 3, 1, 0] rfl)
  refine lv_iconst (v := 0) hx hb dX6_layRank_46 (by decide) ?_
  refine lv_istore (lv' := [(4, .int (0 : Int32)), (0, .ref h_t), (1, .int v1)]) hx hb dX6_layRank_47 hl (by decide) rfl (fun ls hl => ?_)
  obtain ⟨q_32, hq_32, hM⟩ := on_bind hM
  refine lp_49 v1 on_F (0 : Int32) q_9.1 q_9.2 q_32 hq_32 (fun H locs hP hD hS ls hl => ?_) H locs hP hD hS ls (lv_sub hl [1, 2, 0] rfl)
  have hM := Option.some.inj hM
  subst hM
  rw [← hQ]
  exact on_vret hx hb hr hlk hP hD hS dX6_layRank_131
