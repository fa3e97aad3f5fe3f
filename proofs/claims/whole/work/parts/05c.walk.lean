abbrev rm_X5_leastSetBy : Room := { frames := 4, cells := 0, slots := 0, locals := 86 }
set_option maxHeartbeats 4000000 in
set_option maxRecDepth 100000 in
theorem k_X5_leastSetBy {l : Launch} {D : va_G} {cI cJ cZ cS cA : ClassId} (h_t : Nat) (h_t_now : Nat) (h_t_images : Nat) (h_t_pad : Nat) (h_t_net : Nat) (h_t_second : Nat) (h_t_renumbering : Nat) (h_t_table : Nat) (h_t_marks : Nat) (h_t_net_rows : Nat) (h_t_second_rows : Nat) (t_net_many : Int32) (t_net_rows : Nat → Int32) (t_second_many : Int32) (t_second_rows : Nat → Int32) (v1 : Int32) (out : Int32 × Int32 × (Nat → Int32)) (hM : M_X5_leastSetBy v1 t_net_many t_net_rows t_second_many t_second_rows = some out) : on_Con l yX5_leastSetBy wsX5_leastSetBy rm_X5_leastSetBy [.ref h_t, .int v1] D (on_T cI cJ cZ cS cA) [(h_t, .inr (5, [.ref h_t_now, .ref h_t_images, .ref h_t_pad, .ref h_t_net, .ref h_t_second, .ref h_t_renumbering, .ref h_t_table, .ref h_t_marks])), (h_t_net, .inr (0, [.int t_net_many, .ref h_t_net_rows])), (h_t_net_rows, .inl (cI, 7, .inl t_net_rows)), (h_t_second, .inr (0, [.int t_second_many, .ref h_t_second_rows])), (h_t_second_rows, .inl (cI, 7, .inl t_second_rows))] (some (.int out.1)) [(h_t, .inr (5, [.ref h_t_now, .ref h_t_images, .ref h_t_pad, .ref h_t_net, .ref h_t_second, .ref h_t_renumbering, .ref h_t_table, .ref h_t_marks])), (h_t_net, .inr (0, [.int t_net_many, .ref h_t_net_rows])), (h_t_net_rows, .inl (cI, 7, .inl t_net_rows)), (h_t_second, .inr (0, [.int out.2.1, .ref h_t_second_rows])), (h_t_second_rows, .inl (cI, 7, .inl out.2.2))] := by
  unfold M_X5_leastSetBy at hM
  refine on_enter (cc := cX5_leastSetBy) (nL := 3) (rt := (some .int)) (own := RX5) (by decide +kernel) rfl rfl (Nat.le_of_ble_eq_true rfl) ?_
  intro p e s m below meth c A ls hx hb hml hr hlk hts hown hA hK hN H locs hP hD hS hl
  have hl : lv_has ls 3 [(0, .ref h_t), (1, .int v1)] := hl
  generalize hQ : MQ below (on_Q D (some (.int out.1)) [(h_t, .inr (5, [.ref h_t_now, .ref h_t_images, .ref h_t_pad, .ref h_t_net, .ref h_t_second, .ref h_t_renumbering, .ref h_t_table, .ref h_t_marks])), (h_t_net, .inr (0, [.int t_net_many, .ref h_t_net_rows])), (h_t_net_rows, .inl (cI, 7, .inl t_net_rows)), (h_t_second, .inr (0, [.int out.2.1, .ref h_t_second_rows])), (h_t_second_rows, .inl (cI, 7, .inl out.2.2))] A) _ s 0 0 A = Q
  generalize hAr : List.toArray ([.ref h_t, .int v1] : List Value) = args at hts hQ ⊢
  have w1 := hts (.fieldLink RX5 30 "OddNets" "net" "LOddNets$Net;") (by decide +kernel)
  have w2 : ∀ w ∈ wsX50, w ∈ wsX5_leastSetBy := by decide +kernel
  have w3 : ∀ w ∈ wsX00, w ∈ wsX5_leastSetBy := by decide +kernel
  have w4 := hts (.fieldLink RX5 34 "OddNets" "second" "LOddNets$Net;") (by decide +kernel)
  have w5 := hts (.initialized RX0) (by decide +kernel)
  have w6 := hts (.instanceMethod yX0_copySwitched) (by decide +kernel)
  have w7 := hts (.selects RX0 yX0_copySwitched yX0_copySwitched) (by decide +kernel)
  have w8 := hts (.instanceMethod yX0_eachDegreeIs) (by decide +kernel)
  have w9 := hts (.selects RX0 yX0_eachDegreeIs yX0_eachDegreeIs) (by decide +kernel)
  have lp_2 : ∀ (v1 : Int32), ∀ (n : Nat) (v2 : Int32) (t_second_many : Int32) (t_second_rows : Nat → Int32) (x : (Int32 × Int32 × (Nat → Int32)) ⊕ (Int32 × (Nat → Int32))), on_loop (fun (s : Int32 × Int32 × (Nat → Int32)) => B_X5_leastSetBy_2 v1 t_net_many t_net_rows s.1 s.2.1 s.2.2) n (v2, t_second_many, t_second_rows) = some x → (∀ u, x = Sum.inr u → ∀ (H : Heap) (locs : List Loc), va_P D vwCl [(h_t, .inr (5, [.ref h_t_now, .ref h_t_images, .ref h_t_pad, .ref h_t_net, .ref h_t_second, .ref h_t_renumbering, .ref h_t_table, .ref h_t_marks])), (h_t_net, .inr (0, [.int t_net_many, .ref h_t_net_rows])), (h_t_net_rows, .inl (cI, 7, .inl t_net_rows)), (h_t_second, .inr (0, [.int u.1, .ref h_t_second_rows])), (h_t_second_rows, .inl (cI, 7, .inl u.2))] H → va_D A [(h_t, .inr (5, [.ref h_t_now, .ref h_t_images, .ref h_t_pad, .ref h_t_net, .ref h_t_second, .ref h_t_renumbering, .ref h_t_table, .ref h_t_marks])), (h_t_net, .inr (0, [.int t_net_many, .ref h_t_net_rows])), (h_t_net_rows, .inl (cI, 7, .inl t_net_rows)), (h_t_second, .inr (0, [.int u.1, .ref h_t_second_rows])), (h_t_second_rows, .inl (cI, 7, .inl u.2))] → va_S A s.heap H locs → ∀ ls : Array Slot, lv_has ls 3 [] → W p l e rm_X5_leastSetBy s m args below meth c H locs 0 0 Q (F0 m 46 ls [])) → (∀ o, x = Sum.inl o → o = out) → ∀ (H : Heap) (locs : List Loc), va_P D vwCl [(h_t, .inr (5, [.ref h_t_now, .ref h_t_images, .ref h_t_pad, .ref h_t_net, .ref h_t_second, .ref h_t_renumbering, .ref h_t_table, .ref h_t_marks])), (h_t_net, .inr (0, [.int t_net_many, .ref h_t_net_rows])), (h_t_net_rows, .inl (cI, 7, .inl t_net_rows)), (h_t_second, .inr (0, [.int t_second_many, .ref h_t_second_rows])), (h_t_second_rows, .inl (cI, 7, .inl t_second_rows))] H → va_D A [(h_t, .inr (5, [.ref h_t_now, .ref h_t_images, .ref h_t_pad, .ref h_t_net, .ref h_t_second, .ref h_t_renumbering, .ref h_t_table, .ref h_t_marks])), (h_t_net, .inr (0, [.int t_net_many, .ref h_t_net_rows])), (h_t_net_rows, .inl (cI, 7, .inl t_net_rows)), (h_t_second, .inr (0, [.int t_second_many, .ref h_t_second_rows])), (h_t_second_rows, .inl (cI, 7, .inl t_second_rows))] → va_S A s.heap H locs → ∀ ls : Array Slot, lv_has ls 3 [(0, .ref h_t), (1, .int v1), (2, .int v2)] → W p l e rm_X5_leastSetBy s m args below meth c H locs 0 0 Q (F0 m 2 ls []) := by
    intro v1
    intro n
    induction n with
    | zero =>
      intro v2 t_second_many t_second_rows x hL
      exact (on_loop0 hL).elim
    | succ n ih =>
      intro v2 t_second_many t_second_rows x hL K1 K2 H locs hP hD hS ls hl
      obtain ⟨y, hM, hk⟩ := on_loopE hL
      have hM : B_X5_leastSetBy_2 v1 t_net_many t_net_rows v2 t_second_many t_second_rows = some y := hM
      unfold B_X5_leastSetBy_2 at hM
      refine lv_iload_n hx hb dX5_leastSetBy_2 rfl (lv_at hl 2 rfl) ?_
      refine lv_iconst (v := 1) hx hb dX5_leastSetBy_3 (by decide) ?_
      refine lv_aload_n hx hb dX5_leastSetBy_4 rfl (lv_at hl 0 rfl) ?_
      refine va_get (D := D) (ci := 5) (v := .ref h_t_net) (C := RX5) (T := TX5) (N := 8) hx hb hts w2 hown hK hP 0 rfl rfl 3 (by decide) w1 (fun _ h9 => h9) rfl dX5_leastSetBy_5 ?_
      refine va_getN (D := D) (ci := 0) (v := .int t_net_many) (C := RX0) (T := TX0) (N := 2) hx hb hts w3 hown hK hP 1 rfl rfl 0 (by decide) (va_Nw.use rfl (hN _ (List.mem_of_getElem? (i := 5) rfl))) (fun _ h9 => h9) rfl dX5_leastSetBy_8 ?_
      refine lv_ishl hx hb dX5_leastSetBy_11 ?_
      refine lv_icmp_ge (tgt := 46) hx hb dX5_leastSetBy_12 (by decide) (fun c_1 => ?_) (fun c_1 => ?_)
      · have hM := on_pos c_1 hM
        have hk := on_nxR hM hk
        subst hk
        exact K1 _ rfl _ _ hP hD hS ls (lv_sub hl [] rfl)
      · have hM := on_neg c_1 hM
        refine lv_aload_n hx hb dX5_leastSetBy_15 rfl (lv_at hl 0 rfl) ?_
        refine va_get (D := D) (ci := 5) (v := .ref h_t_second) (C := RX5) (T := TX5) (N := 8) hx hb hts w2 hown hK hP 0 rfl rfl 4 (by decide) w4 (fun _ h9 => h9) rfl dX5_leastSetBy_16 ?_
        refine lv_aload_n hx hb dX5_leastSetBy_19 rfl (lv_at hl 0 rfl) ?_
        refine va_get (D := D) (ci := 5) (v := .ref h_t_net) (C := RX5) (T := TX5) (N := 8) hx hb hts w2 hown hK hP 0 rfl rfl 3 (by decide) w1 (fun _ h9 => h9) rfl dX5_leastSetBy_20 ?_
        refine lv_iload_n hx hb dX5_leastSetBy_23 rfl (lv_at hl 2 rfl) ?_
        obtain ⟨q_2, hq_2, hM⟩ := on_bind hM
        refine on_callVN (rest := []) (As := [.ref h_t_net, .int v2]) (st1 := []) (C := RX0) (ci := 0) (q0 := 3) (wc := [(h_t_second, .inr (0, [.int t_second_many, .ref h_t_second_rows])), (h_t_second_rows, .inl (cI, 7, .inl t_second_rows)), (h_t_net, .inr (0, [.int t_net_many, .ref h_t_net_rows])), (h_t_net_rows, .inl (cI, 7, .inl t_net_rows))]) (wr := [(h_t, .inr (5, [.ref h_t_now, .ref h_t_images, .ref h_t_pad, .ref h_t_net, .ref h_t_second, .ref h_t_renumbering, .ref h_t_table, .ref h_t_marks]))]) (wc' := [(h_t_second, .inr (0, [.int q_2.1, .ref h_t_second_rows])), (h_t_second_rows, .inl (cI, 7, .inl q_2.2)), (h_t_net, .inr (0, [.int t_net_many, .ref h_t_net_rows])), (h_t_net_rows, .inl (cI, 7, .inl t_net_rows))]) (wf := [(h_t, .inr (5, [.ref h_t_now, .ref h_t_images, .ref h_t_pad, .ref h_t_net, .ref h_t_second, .ref h_t_renumbering, .ref h_t_table, .ref h_t_marks])), (h_t_net, .inr (0, [.int t_net_many, .ref h_t_net_rows])), (h_t_net_rows, .inl (cI, 7, .inl t_net_rows)), (h_t_second, .inr (0, [.int q_2.1, .ref h_t_second_rows])), (h_t_second_rows, .inl (cI, 7, .inl q_2.2))]) (rt := none) ⟨hx, hb, hml, hown, hts⟩ (k_X0_copySwitched h_t_second h_t_second_rows h_t_net h_t_net_rows t_second_many t_second_rows t_net_many t_net_rows v2 q_2 hq_2) ⟨va_cnB 2 hts gX5_leastSetBy_X0_copySwitched_n151 rfl rfl rfl (hN _ (List.mem_of_getElem? (i := 37) rfl)) w5 hdX0_copySwitched ⟨(Nat.le_of_ble_eq_true rfl), (Nat.le_of_ble_eq_true rfl)⟩, w6, w7⟩ hK hN hP hD hS hA [3, 4, 1, 2] [0] [0, 3, 4, 1, 2] rfl rfl rfl rfl (by decide) rfl rfl rfl rfl rfl rfl hl.1 rfl (Nat.le_of_ble_eq_true rfl) rfl dX5_leastSetBy_24 ⟨Nat.zero_le _, Nat.zero_le _⟩ (fun H locs hP hD hS => ?_)
        refine lv_aload_n hx hb dX5_leastSetBy_27 rfl (lv_at hl 0 rfl) ?_
        refine va_get (D := D) (ci := 5) (v := .ref h_t_second) (C := RX5) (T := TX5) (N := 8) hx hb hts w2 hown hK hP 0 rfl rfl 4 (by decide) w4 (fun _ h9 => h9) rfl dX5_leastSetBy_28 ?_
        refine lv_iload_n hx hb dX5_leastSetBy_31 rfl (lv_at hl 1 rfl) ?_
        obtain ⟨q_3, hq_3, hM⟩ := on_bind hM
        refine on_callVN (rest := []) (As := [.int v1]) (st1 := [.int q_3]) (C := RX0) (ci := 0) (q0 := 3) (wc := [(h_t_second, .inr (0, [.int q_2.1, .ref h_t_second_rows])), (h_t_second_rows, .inl (cI, 7, .inl q_2.2))]) (wr := [(h_t, .inr (5, [.ref h_t_now, .ref h_t_images, .ref h_t_pad, .ref h_t_net, .ref h_t_second, .ref h_t_renumbering, .ref h_t_table, .ref h_t_marks])), (h_t_net, .inr (0, [.int t_net_many, .ref h_t_net_rows])), (h_t_net_rows, .inl (cI, 7, .inl t_net_rows))]) (wc' := [(h_t_second, .inr (0, [.int q_2.1, .ref h_t_second_rows])), (h_t_second_rows, .inl (cI, 7, .inl q_2.2))]) (wf := [(h_t, .inr (5, [.ref h_t_now, .ref h_t_images, .ref h_t_pad, .ref h_t_net, .ref h_t_second, .ref h_t_renumbering, .ref h_t_table, .ref h_t_marks])), (h_t_net, .inr (0, [.int t_net_many, .ref h_t_net_rows])), (h_t_net_rows, .inl (cI, 7, .inl t_net_rows)), (h_t_second, .inr (0, [.int q_2.1, .ref h_t_second_rows])), (h_t_second_rows, .inl (cI, 7, .inl q_2.2))]) (rt := (some (.int q_3))) ⟨hx, hb, hml, hown, hts⟩ (k_X0_eachDegreeIs h_t_second h_t_second_rows q_2.1 q_2.2 v1 q_3 hq_3) ⟨va_cnB 1 hts gX5_leastSetBy_X0_eachDegreeIs_n224 rfl rfl rfl (hN _ (List.mem_of_getElem? (i := 38) rfl)) w5 hdX0_eachDegreeIs ⟨(Nat.le_of_ble_eq_true rfl), (Nat.le_of_ble_eq_true rfl)⟩, w8, w9⟩ hK hN hP hD hS hA [3, 4] [0, 1, 2] [0, 1, 2, 3, 4] rfl rfl rfl rfl (by decide) rfl rfl rfl rfl rfl rfl hl.1 rfl (Nat.le_of_ble_eq_true rfl) rfl dX5_leastSetBy_32 ⟨Nat.zero_le _, Nat.zero_le _⟩ (fun H locs hP hD hS => ?_)
        refine lv_if_eq (tgt := 40) hx hb dX5_leastSetBy_35 (by decide) (fun c_4 => ?_) (fun c_4 => ?_)
        · have hM := on_pos c_4 hM
          obtain ⟨v2_5, ev2_5⟩ : ∃ z : Int32, z = v2 + 2 := ⟨_, rfl⟩
          have hM := on_letE ev2_5 hM
          refine lv_iinc (v := v2_5) (lv' := [(2, .int v2_5), (0, .ref h_t), (1, .int v1)]) hx hb dX5_leastSetBy_40 hl (k := 2) rfl (by rw [ev2_5]; rfl) (by decide) rfl (fun ls hl => ?_)
          refine lv_goto (tgt := 2) hx hb dX5_leastSetBy_43 (by decide) ?_
          have hk := on_nxL hM hk
          exact ih v2_5 q_2.1 q_2.2 _ hk K1 K2 _ _ hP hD hS ls (lv_sub hl [1, 2, 0] rfl)
        · have hM := on_neg c_4 hM
          refine lv_iload_n hx hb dX5_leastSetBy_38 rfl (lv_at hl 2 rfl) ?_
          have hk := on_nxR hM hk
          subst hk
          have ho := K2 _ rfl
          subst ho
          rw [← hQ]
          exact on_iret hx hb hr hlk hP hD hS dX5_leastSetBy_39
  refine lv_iconst (v := 0) hx hb dX5_leastSetBy_0 (by decide) ?_
  refine lv_istore_n (lv' := [(2, .int (0 : Int32)), (0, .ref h_t), (1, .int v1)]) hx hb dX5_leastSetBy_1 rfl hl (by decide) rfl (fun ls hl => ?_)
  obtain ⟨q_6, hq_6, hM⟩ := on_bind hM
  refine lp_2 v1 on_F (0 : Int32) t_second_many t_second_rows q_6 hq_6 (fun u_7 hv H locs hP hD hS ls hl => ?_) (fun o ho => ?_) H locs hP hD hS ls (lv_sub hl [1, 2, 0] rfl)
  · subst hv
    have hM := on_elR hM
    refine lv_bipush (v := -6) hx hb dX5_leastSetBy_46 (by decide) ?_
    have hM := Option.some.inj hM
    subst hM
    rw [← hQ]
    exact on_iret hx hb hr hlk hP hD hS dX5_leastSetBy_48
  · subst ho
    have hM := on_elL hM
    exact Option.some.inj hM
abbrev rm_X5_even : Room := { frames := 5, cells := 0, slots := 0, locals := 111 }
set_option maxHeartbeats 4000000 in
set_option maxRecDepth 100000 in
theorem k_X5_even {l : Launch} {D : va_G} {cI cJ cZ cS cA : ClassId} (h_t : Nat) (h_t_now : Nat) (h_t_images : Nat) (h_t_pad : Nat) (h_t_net : Nat) (h_t_second : Nat) (h_t_renumbering : Nat) (h_t_table : Nat) (h_t_marks : Nat) (h_t_now_numbers : Nat) (h_t_net_rows : Nat) (h_t_second_rows : Nat) (t_now_many : Int32) (t_now_numbers : Nat → Int32) (t_net_many : Int32) (t_net_rows : Nat → Int32) (t_second_many : Int32) (t_second_rows : Nat → Int32) (v1 : Int32) (v2 : Int32) (out : Int32 × Int32 × (Nat → Int32) × Int32 × (Nat → Int32)) (hM : M_X5_even v1 v2 t_now_many t_now_numbers t_net_many t_net_rows t_second_many t_second_rows = some out) : on_Con l yX5_even wsX5_even rm_X5_even [.ref h_t, .int v1, .int v2] D (on_T cI cJ cZ cS cA) [(h_t, .inr (5, [.ref h_t_now, .ref h_t_images, .ref h_t_pad, .ref h_t_net, .ref h_t_second, .ref h_t_renumbering, .ref h_t_table, .ref h_t_marks])), (h_t_now, .inr (3, [.int t_now_many, .ref h_t_now_numbers])), (h_t_now_numbers, .inl (cI, 3, .inl t_now_numbers)), (h_t_net, .inr (0, [.int t_net_many, .ref h_t_net_rows])), (h_t_net_rows, .inl (cI, 7, .inl t_net_rows)), (h_t_second, .inr (0, [.int t_second_many, .ref h_t_second_rows])), (h_t_second_rows, .inl (cI, 7, .inl t_second_rows))] (some (.int out.1)) [(h_t, .inr (5, [.ref h_t_now, .ref h_t_images, .ref h_t_pad, .ref h_t_net, .ref h_t_second, .ref h_t_renumbering, .ref h_t_table, .ref h_t_marks])), (h_t_now, .inr (3, [.int t_now_many, .ref h_t_now_numbers])), (h_t_now_numbers, .inl (cI, 3, .inl t_now_numbers)), (h_t_net, .inr (0, [.int out.2.1, .ref h_t_net_rows])), (h_t_net_rows, .inl (cI, 7, .inl out.2.2.1)), (h_t_second, .inr (0, [.int out.2.2.2.1, .ref h_t_second_rows])), (h_t_second_rows, .inl (cI, 7, .inl out.2.2.2.2))] := by
  unfold M_X5_even at hM
  refine on_enter (cc := cX5_even) (nL := 3) (rt := (some .int)) (own := RX5) (by decide +kernel) rfl rfl (Nat.le_of_ble_eq_true rfl) ?_
  intro p e s m below meth c A ls hx hb hml hr hlk hts hown hA hK hN H locs hP hD hS hl
  have hl : lv_has ls 3 [(0, .ref h_t), (1, .int v1), (2, .int v2)] := hl
  generalize hQ : MQ below (on_Q D (some (.int out.1)) [(h_t, .inr (5, [.ref h_t_now, .ref h_t_images, .ref h_t_pad, .ref h_t_net, .ref h_t_second, .ref h_t_renumbering, .ref h_t_table, .ref h_t_marks])), (h_t_now, .inr (3, [.int t_now_many, .ref h_t_now_numbers])), (h_t_now_numbers, .inl (cI, 3, .inl t_now_numbers)), (h_t_net, .inr (0, [.int out.2.1, .ref h_t_net_rows])), (h_t_net_rows, .inl (cI, 7, .inl out.2.2.1)), (h_t_second, .inr (0, [.int out.2.2.2.1, .ref h_t_second_rows])), (h_t_second_rows, .inl (cI, 7, .inl out.2.2.2.2))] A) _ s 0 0 A = Q
  generalize hAr : List.toArray ([.ref h_t, .int v1, .int v2] : List Value) = args at hts hQ ⊢
  have w1 := hts (.fieldLink RX5 30 "OddNets" "net" "LOddNets$Net;") (by decide +kernel)
  have w2 : ∀ w ∈ wsX50, w ∈ wsX5_even := by decide +kernel
  refine lv_iload_n hx hb dX5_even_0 rfl (lv_at hl 1 rfl) ?_
  obtain ⟨q_1, hq_1, hM⟩ := on_bind hM
  refine on_callS0 (rest := []) (As := [.int v1]) (st1 := [.int q_1]) ⟨hx, hb, hml, hown, hts⟩ (k_X5_isSlot v1 q_1 hq_1) (va_cwS 1 hts gX5_even_X5_isSlot rfl rfl rfl hdX5_isSlot ⟨(Nat.le_of_ble_eq_true rfl), (Nat.le_of_ble_eq_true rfl)⟩) hK hN hP hD hS hA rfl hl.1 rfl (Nat.le_of_ble_eq_true rfl) rfl dX5_even_1 ⟨Nat.zero_le _, Nat.zero_le _⟩ (fun H locs hP hS => ?_)
  refine lv_if_ne (tgt := 9) hx hb dX5_even_4 (by decide) (fun c_2 => ?_) (fun c_2 => ?_)
  · have hM := on_neg c_2 hM
    refine lv_iload_n hx hb dX5_even_9 rfl (lv_at hl 2 rfl) ?_
    refine lv_iconst (v := 0) hx hb dX5_even_10 (by decide) ?_
    refine lv_iconst (v := 1) hx hb dX5_even_11 (by decide) ?_
    obtain ⟨q_3, hq_3, hM⟩ := on_bind hM
    refine on_callS0 (rest := []) (As := [.int v2, .int (0 : Int32), .int (1 : Int32)]) (st1 := [.int q_3]) ⟨hx, hb, hml, hown, hts⟩ (k_X5_within v2 (0 : Int32) (1 : Int32) q_3 hq_3) (va_cwS 3 hts gX5_even_X5_within rfl rfl rfl hdX5_within ⟨(Nat.le_of_ble_eq_true rfl), (Nat.le_of_ble_eq_true rfl)⟩) hK hN hP hD hS hA rfl hl.1 rfl (Nat.le_of_ble_eq_true rfl) rfl dX5_even_12 ⟨Nat.zero_le _, Nat.zero_le _⟩ (fun H locs hP hS => ?_)
    refine lv_if_ne (tgt := 21) hx hb dX5_even_15 (by decide) (fun c_4 => ?_) (fun c_4 => ?_)
    · have hM := on_neg c_4 hM
      refine lv_aload_n hx hb dX5_even_21 rfl (lv_at hl 0 rfl) ?_
      refine lv_aload_n hx hb dX5_even_22 rfl (lv_at hl 0 rfl) ?_
      refine va_get (D := D) (ci := 5) (v := .ref h_t_net) (C := RX5) (T := TX5) (N := 8) hx hb hts w2 hown hK hP 0 rfl rfl 3 (by decide) w1 (fun _ h9 => h9) rfl dX5_even_23 ?_
      refine lv_iload_n hx hb dX5_even_26 rfl (lv_at hl 1 rfl) ?_
      obtain ⟨q_5, hq_5, hM⟩ := on_bind hM
      refine on_callV (rest := []) (As := [.ref h_t_net, .int v1]) (st1 := []) (C := RX5) (ci := 5) (q0 := 0) (wc := [(h_t, .inr (5, [.ref h_t_now, .ref h_t_images, .ref h_t_pad, .ref h_t_net, .ref h_t_second, .ref h_t_renumbering, .ref h_t_table, .ref h_t_marks])), (h_t_now, .inr (3, [.int t_now_many, .ref h_t_now_numbers])), (h_t_now_numbers, .inl (cI, 3, .inl t_now_numbers)), (h_t_net, .inr (0, [.int t_net_many, .ref h_t_net_rows])), (h_t_net_rows, .inl (cI, 7, .inl t_net_rows))]) (wr := [(h_t_second, .inr (0, [.int t_second_many, .ref h_t_second_rows])), (h_t_second_rows, .inl (cI, 7, .inl t_second_rows))]) (wc' := [(h_t, .inr (5, [.ref h_t_now, .ref h_t_images, .ref h_t_pad, .ref h_t_net, .ref h_t_second, .ref h_t_renumbering, .ref h_t_table, .ref h_t_marks])), (h_t_now, .inr (3, [.int t_now_many, .ref h_t_now_numbers])), (h_t_now_numbers, .inl (cI, 3, .inl t_now_numbers)), (h_t_net, .inr (0, [.int q_5.1, .ref h_t_net_rows])), (h_t_net_rows, .inl (cI, 7, .inl q_5.2))]) (wf := [(h_t, .inr (5, [.ref h_t_now, .ref h_t_images, .ref h_t_pad, .ref h_t_net, .ref h_t_second, .ref h_t_renumbering, .ref h_t_table, .ref h_t_marks])), (h_t_now, .inr (3, [.int t_now_many, .ref h_t_now_numbers])), (h_t_now_numbers, .inl (cI, 3, .inl t_now_numbers)), (h_t_net, .inr (0, [.int q_5.1, .ref h_t_net_rows])), (h_t_net_rows, .inl (cI, 7, .inl q_5.2)), (h_t_second, .inr (0, [.int t_second_many, .ref h_t_second_rows])), (h_t_second_rows, .inl (cI, 7, .inl t_second_rows))]) (rt := none) ⟨hx, hb, hml, hown, hts⟩ (k_X5_load h_t h_t_now h_t_images h_t_pad h_t_net h_t_second h_t_renumbering h_t_table h_t_marks h_t_now_numbers h_t_net h_t_net_rows t_now_many t_now_numbers t_net_many t_net_rows v1 q_5 hq_5) (cwV 2 hts gX5_even_X5_load rfl rfl rfl ⟨rfl, hdX5_load⟩ ⟨(Nat.le_of_ble_eq_true rfl), (Nat.le_of_ble_eq_true rfl)⟩) hK hN hP hD hS hA [0, 1, 2, 3, 4] [5, 6] [2, 3, 4, 5, 6, 0, 1] rfl rfl rfl rfl (by decide) rfl rfl rfl rfl rfl rfl hl.1 rfl (Nat.le_of_ble_eq_true rfl) rfl dX5_even_27 ⟨Nat.zero_le _, Nat.zero_le _⟩ (fun H locs hP hD hS => ?_)
      refine lv_iload_n hx hb dX5_even_30 rfl (lv_at hl 2 rfl) ?_
      refine lv_if_ne (tgt := 43) hx hb dX5_even_31 (by decide) (fun c_6 => ?_) (fun c_6 => ?_)
      · have hM := on_neg c_6 hM
        refine lv_aload_n hx hb dX5_even_43 rfl (lv_at hl 0 rfl) ?_
        refine lv_iconst (v := -1) hx hb dX5_even_44 (by decide) ?_
        obtain ⟨q_7, hq_7, hM⟩ := on_bind hM
        refine on_callV (rest := []) (As := [.int (-1 : Int32)]) (st1 := [.int q_7.1]) (C := RX5) (ci := 5) (q0 := 0) (wc := [(h_t, .inr (5, [.ref h_t_now, .ref h_t_images, .ref h_t_pad, .ref h_t_net, .ref h_t_second, .ref h_t_renumbering, .ref h_t_table, .ref h_t_marks])), (h_t_net, .inr (0, [.int q_5.1, .ref h_t_net_rows])), (h_t_net_rows, .inl (cI, 7, .inl q_5.2)), (h_t_second, .inr (0, [.int t_second_many, .ref h_t_second_rows])), (h_t_second_rows, .inl (cI, 7, .inl t_second_rows))]) (wr := [(h_t_now, .inr (3, [.int t_now_many, .ref h_t_now_numbers])), (h_t_now_numbers, .inl (cI, 3, .inl t_now_numbers))]) (wc' := [(h_t, .inr (5, [.ref h_t_now, .ref h_t_images, .ref h_t_pad, .ref h_t_net, .ref h_t_second, .ref h_t_renumbering, .ref h_t_table, .ref h_t_marks])), (h_t_net, .inr (0, [.int q_5.1, .ref h_t_net_rows])), (h_t_net_rows, .inl (cI, 7, .inl q_5.2)), (h_t_second, .inr (0, [.int q_7.2.1, .ref h_t_second_rows])), (h_t_second_rows, .inl (cI, 7, .inl q_7.2.2))]) (wf := [(h_t, .inr (5, [.ref h_t_now, .ref h_t_images, .ref h_t_pad, .ref h_t_net, .ref h_t_second, .ref h_t_renumbering, .ref h_t_table, .ref h_t_marks])), (h_t_now, .inr (3, [.int t_now_many, .ref h_t_now_numbers])), (h_t_now_numbers, .inl (cI, 3, .inl t_now_numbers)), (h_t_net, .inr (0, [.int q_5.1, .ref h_t_net_rows])), (h_t_net_rows, .inl (cI, 7, .inl q_5.2)), (h_t_second, .inr (0, [.int q_7.2.1, .ref h_t_second_rows])), (h_t_second_rows, .inl (cI, 7, .inl q_7.2.2))]) (rt := (some (.int q_7.1))) ⟨hx, hb, hml, hown, hts⟩ (k_X5_leastSetBy h_t h_t_now h_t_images h_t_pad h_t_net h_t_second h_t_renumbering h_t_table h_t_marks h_t_net_rows h_t_second_rows q_5.1 q_5.2 t_second_many t_second_rows (-1 : Int32) q_7 hq_7) (cwV 1 hts gX5_even_X5_leastSetBy rfl rfl rfl ⟨rfl, hdX5_leastSetBy⟩ ⟨(Nat.le_of_ble_eq_true rfl), (Nat.le_of_ble_eq_true rfl)⟩) hK hN hP hD hS hA [0, 3, 4, 5, 6] [1, 2] [2, 0, 1, 3, 4, 5, 6] rfl rfl rfl rfl (by decide) rfl rfl rfl rfl rfl rfl hl.1 rfl (Nat.le_of_ble_eq_true rfl) rfl dX5_even_45 ⟨Nat.zero_le _, Nat.zero_le _⟩ (fun H locs hP hD hS => ?_)
        have hM := Option.some.inj hM
        subst hM
        rw [← hQ]
        exact on_iret hx hb hr hlk hP hD hS dX5_even_48
      · have hM := on_pos c_6 hM
        refine lv_aload_n hx hb dX5_even_34 rfl (lv_at hl 0 rfl) ?_
        refine lv_iconst (v := -1) hx hb dX5_even_35 (by decide) ?_
        refine lv_iconst (v := 0) hx hb dX5_even_36 (by decide) ?_
        obtain ⟨q_8, hq_8, hM⟩ := on_bind hM
        refine on_callV (rest := []) (As := [.int (-1 : Int32), .int (0 : Int32)]) (st1 := [.int q_8.1]) (C := RX5) (ci := 5) (q0 := 0) (wc := [(h_t, .inr (5, [.ref h_t_now, .ref h_t_images, .ref h_t_pad, .ref h_t_net, .ref h_t_second, .ref h_t_renumbering, .ref h_t_table, .ref h_t_marks])), (h_t_net, .inr (0, [.int q_5.1, .ref h_t_net_rows])), (h_t_net_rows, .inl (cI, 7, .inl q_5.2)), (h_t_second, .inr (0, [.int t_second_many, .ref h_t_second_rows])), (h_t_second_rows, .inl (cI, 7, .inl t_second_rows))]) (wr := [(h_t_now, .inr (3, [.int t_now_many, .ref h_t_now_numbers])), (h_t_now_numbers, .inl (cI, 3, .inl t_now_numbers))]) (wc' := [(h_t, .inr (5, [.ref h_t_now, .ref h_t_images, .ref h_t_pad, .ref h_t_net, .ref h_t_second, .ref h_t_renumbering, .ref h_t_table, .ref h_t_marks])), (h_t_net, .inr (0, [.int q_5.1, .ref h_t_net_rows])), (h_t_net_rows, .inl (cI, 7, .inl q_5.2)), (h_t_second, .inr (0, [.int q_8.2.1, .ref h_t_second_rows])), (h_t_second_rows, .inl (cI, 7, .inl q_8.2.2))]) (wf := [(h_t, .inr (5, [.ref h_t_now, .ref h_t_images, .ref h_t_pad, .ref h_t_net, .ref h_t_second, .ref h_t_renumbering, .ref h_t_table, .ref h_t_marks])), (h_t_now, .inr (3, [.int t_now_many, .ref h_t_now_numbers])), (h_t_now_numbers, .inl (cI, 3, .inl t_now_numbers)), (h_t_net, .inr (0, [.int q_5.1, .ref h_t_net_rows])), (h_t_net_rows, .inl (cI, 7, .inl q_5.2)), (h_t_second, .inr (0, [.int q_8.2.1, .ref h_t_second_rows])), (h_t_second_rows, .inl (cI, 7, .inl q_8.2.2))]) (rt := (some (.int q_8.1))) ⟨hx, hb, hml, hown, hts⟩ (k_X5_howManyBy h_t h_t_now h_t_images h_t_pad h_t_net h_t_second h_t_renumbering h_t_table h_t_marks h_t_net_rows h_t_second_rows q_5.1 q_5.2 t_second_many t_second_rows (-1 : Int32) (0 : Int32) q_8 hq_8) (cwV 2 hts gX5_even_X5_howManyBy rfl rfl rfl ⟨rfl, hdX5_howManyBy⟩ ⟨(Nat.le_of_ble_eq_true rfl), (Nat.le_of_ble_eq_true rfl)⟩) hK hN hP hD hS hA [0, 3, 4, 5, 6] [1, 2] [2, 0, 1, 3, 4, 5, 6] rfl rfl rfl rfl (by decide) rfl rfl rfl rfl rfl rfl hl.1 rfl (Nat.le_of_ble_eq_true rfl) rfl dX5_even_37 ⟨Nat.zero_le _, Nat.zero_le _⟩ (fun H locs hP hD hS => ?_)
        refine lv_goto (tgt := 48) hx hb dX5_even_40 (by decide) ?_
        have hM := Option.some.inj hM
        subst hM
        rw [← hQ]
        exact on_iret hx hb hr hlk hP hD hS dX5_even_48
    · have hM := on_pos c_4 hM
      refine lv_bipush (v := -2) hx hb dX5_even_18 (by decide) ?_
      have hM := Option.some.inj hM
      subst hM
      rw [← hQ]
      exact on_iret hx hb hr hlk hP hD hS dX5_even_20
  · have hM := on_pos c_2 hM
    refine lv_iconst (v := -1) hx hb dX5_even_7 (by decide) ?_
    have hM := Option.some.inj hM
    subst hM
    rw [← hQ]
    exact on_iret hx hb hr hlk hP hD hS dX5_even_8
abbrev rm_X5_by : Room := { frames := 5, cells := 0, slots := 0, locals := 111 }
set_option maxHeartbeats 4000000 in
set_option maxRecDepth 100000 in
theorem k_X5_by {l : Launch} {D : va_G} {cI cJ cZ cS cA : ClassId} (h_t : Nat) (h_t_now : Nat) (h_t_images : Nat) (h_t_pad : Nat) (h_t_net : Nat) (h_t_second : Nat) (h_t_renumbering : Nat) (h_t_table : Nat) (h_t_marks : Nat) (h_t_now_numbers : Nat) (h_t_net_rows : Nat) (h_t_second_rows : Nat) (t_now_many : Int32) (t_now_numbers : Nat → Int32) (t_net_many : Int32) (t_net_rows : Nat → Int32) (t_second_many : Int32) (t_second_rows : Nat → Int32) (v1 : Int32) (v2 : Int32) (v3 : Int32) (out : Int32 × Int32 × (Nat → Int32) × Int32 × (Nat → Int32)) (hM : M_X5_by v1 v2 v3 t_now_many t_now_numbers t_net_many t_net_rows t_second_many t_second_rows = some out) : on_Con l yX5_by wsX5_by rm_X5_by [.ref h_t, .int v1, .int v2, .int v3] D (on_T cI cJ cZ cS cA) [(h_t, .inr (5, [.ref h_t_now, .ref h_t_images, .ref h_t_pad, .ref h_t_net, .ref h_t_second, .ref h_t_renumbering, .ref h_t_table, .ref h_t_marks])), (h_t_now, .inr (3, [.int t_now_many, .ref h_t_now_numbers])), (h_t_now_numbers, .inl (cI, 3, .inl t_now_numbers)), (h_t_net, .inr (0, [.int t_net_many, .ref h_t_net_rows])), (h_t_net_rows, .inl (cI, 7, .inl t_net_rows)), (h_t_second, .inr (0, [.int t_second_many, .ref h_t_second_rows])), (h_t_second_rows, .inl (cI, 7, .inl t_second_rows))] (some (.int out.1)) [(h_t, .inr (5, [.ref h_t_now, .ref h_t_images, .ref h_t_pad, .ref h_t_net, .ref h_t_second, .ref h_t_renumbering, .ref h_t_table, .ref h_t_marks])), (h_t_now, .inr (3, [.int t_now_many, .ref h_t_now_numbers])), (h_t_now_numbers, .inl (cI, 3, .inl t_now_numbers)), (h_t_net, .inr (0, [.int out.2.1, .ref h_t_net_rows])), (h_t_net_rows, .inl (cI, 7, .inl out.2.2.1)), (h_t_second, .inr (0, [.int out.2.2.2.1, .ref h_t_second_rows])), (h_t_second_rows, .inl (cI, 7, .inl out.2.2.2.2))] := by
  unfold M_X5_by at hM
  refine on_enter (cc := cX5_by) (nL := 4) (rt := (some .int)) (own := RX5) (by decide +kernel) rfl rfl (Nat.le_of_ble_eq_true rfl) ?_
  intro p e s m below meth c A ls hx hb hml hr hlk hts hown hA hK hN H locs hP hD hS hl
  have hl : lv_has ls 4 [(0, .ref h_t), (1, .int v1), (2, .int v2), (3, .int v3)] := hl
  generalize hQ : MQ below (on_Q D (some (.int out.1)) [(h_t, .inr (5, [.ref h_t_now, .ref h_t_images, .ref h_t_pad, .ref h_t_net, .ref h_t_second, .ref h_t_renumbering, .ref h_t_table, .ref h_t_marks])), (h_t_now, .inr (3, [.int t_now_many, .ref h_t_now_numbers])), (h_t_now_numbers, .inl (cI, 3, .inl t_now_numbers)), (h_t_net, .inr (0, [.int out.2.1, .ref h_t_net_rows])), (h_t_net_rows, .inl (cI, 7, .inl out.2.2.1)), (h_t_second, .inr (0, [.int out.2.2.2.1, .ref h_t_second_rows])), (h_t_second_rows, .inl (cI, 7, .inl out.2.2.2.2))] A) _ s 0 0 A = Q
  generalize hAr : List.toArray ([.ref h_t, .int v1, .int v2, .int v3] : List Value) = args at hts hQ ⊢
  have w1 := hts (.fieldLink RX5 30 "OddNets" "net" "LOddNets$Net;") (by decide +kernel)
  have w2 : ∀ w ∈ wsX50, w ∈ wsX5_by := by decide +kernel
  refine lv_iload_n hx hb dX5_by_0 rfl (lv_at hl 1 rfl) ?_
  obtain ⟨q_1, hq_1, hM⟩ := on_bind hM
  refine on_callS0 (rest := []) (As := [.int v1]) (st1 := [.int q_1]) ⟨hx, hb, hml, hown, hts⟩ (k_X5_isSlot v1 q_1 hq_1) (va_cwS 1 hts gX5_by_X5_isSlot rfl rfl rfl hdX5_isSlot ⟨(Nat.le_of_ble_eq_true rfl), (Nat.le_of_ble_eq_true rfl)⟩) hK hN hP hD hS hA rfl hl.1 rfl (Nat.le_of_ble_eq_true rfl) rfl dX5_by_1 ⟨Nat.zero_le _, Nat.zero_le _⟩ (fun H locs hP hS => ?_)
  refine lv_if_ne (tgt := 9) hx hb dX5_by_4 (by decide) (fun c_2 => ?_) (fun c_2 => ?_)
  · have hM := on_neg c_2 hM
    refine lv_iload_n hx hb dX5_by_9 rfl (lv_at hl 2 rfl) ?_
    refine lv_iconst (v := 0) hx hb dX5_by_10 (by decide) ?_
    refine lv_bipush (v := 6) hx hb dX5_by_11 (by decide) ?_
    obtain ⟨q_3, hq_3, hM⟩ := on_bind hM
    refine on_callS0 (rest := []) (As := [.int v2, .int (0 : Int32), .int (6 : Int32)]) (st1 := [.int q_3]) ⟨hx, hb, hml, hown, hts⟩ (k_X5_within v2 (0 : Int32) (6 : Int32) q_3 hq_3) (va_cwS 3 hts gX5_by_X5_within rfl rfl rfl hdX5_within ⟨(Nat.le_of_ble_eq_true rfl), (Nat.le_of_ble_eq_true rfl)⟩) hK hN hP hD hS hA rfl hl.1 rfl (Nat.le_of_ble_eq_true rfl) rfl dX5_by_13 ⟨Nat.zero_le _, Nat.zero_le _⟩ (fun H locs hP hS => ?_)
    refine lv_if_eq (tgt := 28) hx hb dX5_by_16 (by decide) (fun c_4 => ?_) (fun c_4 => ?_)
    · have hM := on_pos c_4 hM
      refine lv_bipush (v := -2) hx hb dX5_by_28 (by decide) ?_
      have hM := Option.some.inj hM
      subst hM
      rw [← hQ]
      exact on_iret hx hb hr hlk hP hD hS dX5_by_30
    · have hM := on_neg c_4 hM
      refine lv_iload_n hx hb dX5_by_19 rfl (lv_at hl 3 rfl) ?_
      refine lv_iconst (v := 0) hx hb dX5_by_20 (by decide) ?_
      refine lv_iconst (v := 2) hx hb dX5_by_21 (by decide) ?_
      obtain ⟨q_5, hq_5, hM⟩ := on_bind hM
      refine on_callS0 (rest := []) (As := [.int v3, .int (0 : Int32), .int (2 : Int32)]) (st1 := [.int q_5]) ⟨hx, hb, hml, hown, hts⟩ (k_X5_within v3 (0 : Int32) (2 : Int32) q_5 hq_5) (va_cwS 3 hts gX5_by_X5_within rfl rfl rfl hdX5_within ⟨(Nat.le_of_ble_eq_true rfl), (Nat.le_of_ble_eq_true rfl)⟩) hK hN hP hD hS hA rfl hl.1 rfl (Nat.le_of_ble_eq_true rfl) rfl dX5_by_22 ⟨Nat.zero_le _, Nat.zero_le _⟩ (fun H locs hP hS => ?_)
      refine lv_if_ne (tgt := 31) hx hb dX5_by_25 (by decide) (fun c_6 => ?_) (fun c_6 => ?_)
      · have hM := on_neg c_6 hM
        refine lv_aload_n hx hb dX5_by_31 rfl (lv_at hl 0 rfl) ?_
        refine lv_aload_n hx hb dX5_by_32 rfl (lv_at hl 0 rfl) ?_
        refine va_get (D := D) (ci := 5) (v := .ref h_t_net) (C := RX5) (T := TX5) (N := 8) hx hb hts w2 hown hK hP 0 rfl rfl 3 (by decide) w1 (fun _ h9 => h9) rfl dX5_by_33 ?_
        refine lv_iload_n hx hb dX5_by_36 rfl (lv_at hl 1 rfl) ?_
        obtain ⟨q_7, hq_7, hM⟩ := on_bind hM
        refine on_callV (rest := []) (As := [.ref h_t_net, .int v1]) (st1 := []) (C := RX5) (ci := 5) (q0 := 0) (wc := [(h_t, .inr (5, [.ref h_t_now, .ref h_t_images, .ref h_t_pad, .ref h_t_net, .ref h_t_second, .ref h_t_renumbering, .ref h_t_table, .ref h_t_marks])), (h_t_now, .inr (3, [.int t_now_many, .ref h_t_now_numbers])), (h_t_now_numbers, .inl (cI, 3, .inl t_now_numbers)), (h_t_net, .inr (0, [.int t_net_many, .ref h_t_net_rows])), (h_t_net_rows, .inl (cI, 7, .inl t_net_rows))]) (wr := [(h_t_second, .inr (0, [.int t_second_many, .ref h_t_second_rows])), (h_t_second_rows, .inl (cI, 7, .inl t_second_rows))]) (wc' := [(h_t, .inr (5, [.ref h_t_now, .ref h_t_images, .ref h_t_pad, .ref h_t_net, .ref h_t_second, .ref h_t_renumbering, .ref h_t_table, .ref h_t_marks])), (h_t_now, .inr (3, [.int t_now_many, .ref h_t_now_numbers])), (h_t_now_numbers, .inl (cI, 3, .inl t_now_numbers)), (h_t_net, .inr (0, [.int q_7.1, .ref h_t_net_rows])), (h_t_net_rows, .inl (cI, 7, .inl q_7.2))]) (wf := [(h_t, .inr (5, [.ref h_t_now, .ref h_t_images, .ref h_t_pad, .ref h_t_net, .ref h_t_second, .ref h_t_renumbering, .ref h_t_table, .ref h_t_marks])), (h_t_now, .inr (3, [.int t_now_many, .ref h_t_now_numbers])), (h_t_now_numbers, .inl (cI, 3, .inl t_now_numbers)), (h_t_net, .inr (0, [.int q_7.1, .ref h_t_net_rows])), (h_t_net_rows, .inl (cI, 7, .inl q_7.2)), (h_t_second, .inr (0, [.int t_second_many, .ref h_t_second_rows])), (h_t_second_rows, .inl (cI, 7, .inl t_second_rows))]) (rt := none) ⟨hx, hb, hml, hown, hts⟩ (k_X5_load h_t h_t_now h_t_images h_t_pad h_t_net h_t_second h_t_renumbering h_t_table h_t_marks h_t_now_numbers h_t_net h_t_net_rows t_now_many t_now_numbers t_net_many t_net_rows v1 q_7 hq_7) (cwV 2 hts gX5_by_X5_load rfl rfl rfl ⟨rfl, hdX5_load⟩ ⟨(Nat.le_of_ble_eq_true rfl), (Nat.le_of_ble_eq_true rfl)⟩) hK hN hP hD hS hA [0, 1, 2, 3, 4] [5, 6] [2, 3, 4, 5, 6, 0, 1] rfl rfl rfl rfl (by decide) rfl rfl rfl rfl rfl rfl hl.1 rfl (Nat.le_of_ble_eq_true rfl) rfl dX5_by_37 ⟨Nat.zero_le _, Nat.zero_le _⟩ (fun H locs hP hD hS => ?_)
        refine lv_iload_n hx hb dX5_by_40 rfl (lv_at hl 3 rfl) ?_
        refine lv_iconst (v := 1) hx hb dX5_by_41 (by decide) ?_
        refine lv_icmp_ne (tgt := 53) hx hb dX5_by_42 (by decide) (fun c_8 => ?_) (fun c_8 => ?_)
        · have hM := on_neg c_8 hM
          refine lv_aload_n hx hb dX5_by_53 rfl (lv_at hl 0 rfl) ?_
          refine lv_iload_n hx hb dX5_by_54 rfl (lv_at hl 2 rfl) ?_
          refine lv_iload_n hx hb dX5_by_55 rfl (lv_at hl 3 rfl) ?_
          refine lv_iconst (v := 2) hx hb dX5_by_56 (by decide) ?_
          refine lv_icmp_ne (tgt := 64) hx hb dX5_by_57 (by decide) (fun c_9 => ?_) (fun c_9 => ?_)
          · have hM := on_neg c_9 hM
            refine lv_iconst (v := 0) hx hb dX5_by_64 (by decide) ?_
            obtain ⟨q_10, hq_10, hM⟩ := on_bind hM
            refine on_callV (rest := []) (As := [.int v2, .int (0 : Int32)]) (st1 := [.int q_10.1]) (C := RX5) (ci := 5) (q0 := 0) (wc := [(h_t, .inr (5, [.ref h_t_now, .ref h_t_images, .ref h_t_pad, .ref h_t_net, .ref h_t_second, .ref h_t_renumbering, .ref h_t_table, .ref h_t_marks])), (h_t_net, .inr (0, [.int q_7.1, .ref h_t_net_rows])), (h_t_net_rows, .inl (cI, 7, .inl q_7.2)), (h_t_second, .inr (0, [.int t_second_many, .ref h_t_second_rows])), (h_t_second_rows, .inl (cI, 7, .inl t_second_rows))]) (wr := [(h_t_now, .inr (3, [.int t_now_many, .ref h_t_now_numbers])), (h_t_now_numbers, .inl (cI, 3, .inl t_now_numbers))]) (wc' := [(h_t, .inr (5, [.ref h_t_now, .ref h_t_images, .ref h_t_pad, .ref h_t_net, .ref h_t_second, .ref h_t_renumbering, .ref h_t_table, .ref h_t_marks])), (h_t_net, .inr (0, [.int q_7.1, .ref h_t_net_rows])), (h_t_net_rows, .inl (cI, 7, .inl q_7.2)), (h_t_second, .inr (0, [.int q_10.2.1, .ref h_t_second_rows])), (h_t_second_rows, .inl (cI, 7, .inl q_10.2.2))]) (wf := [(h_t, .inr (5, [.ref h_t_now, .ref h_t_images, .ref h_t_pad, .ref h_t_net, .ref h_t_second, .ref h_t_renumbering, .ref h_t_table, .ref h_t_marks])), (h_t_now, .inr (3, [.int t_now_many, .ref h_t_now_numbers])), (h_t_now_numbers, .inl (cI, 3, .inl t_now_numbers)), (h_t_net, .inr (0, [.int q_7.1, .ref h_t_net_rows])), (h_t_net_rows, .inl (cI, 7, .inl q_7.2)), (h_t_second, .inr (0, [.int q_10.2.1, .ref h_t_second_rows])), (h_t_second_rows, .inl (cI, 7, .inl q_10.2.2))]) (rt := (some (.int q_10.1))) ⟨hx, hb, hml, hown, hts⟩ (k_X5_howManyBy h_t h_t_now h_t_images h_t_pad h_t_net h_t_second h_t_renumbering h_t_table h_t_marks h_t_net_rows h_t_second_rows q_7.1 q_7.2 t_second_many t_second_rows v2 (0 : Int32) q_10 hq_10) (cwV 2 hts gX5_by_X5_howManyBy rfl rfl rfl ⟨rfl, hdX5_howManyBy⟩ ⟨(Nat.le_of_ble_eq_true rfl), (Nat.le_of_ble_eq_true rfl)⟩) hK hN hP hD hS hA [0, 3, 4, 5, 6] [1, 2] [2, 0, 1, 3, 4, 5, 6] rfl rfl rfl rfl (by decide) rfl rfl rfl rfl rfl rfl hl.1 rfl (Nat.le_of_ble_eq_true rfl) rfl dX5_by_65 ⟨Nat.zero_le _, Nat.zero_le _⟩ (fun H locs hP hD hS => ?_)
            have hM := Option.some.inj hM
            subst hM
            rw [← hQ]
            exact on_iret hx hb hr hlk hP hD hS dX5_by_68
          · have hM := on_pos c_9 hM
            refine lv_iconst (v := 1) hx hb dX5_by_60 (by decide) ?_
            refine lv_goto (tgt := 65) hx hb dX5_by_61 (by decide) ?_
            obtain ⟨q_11, hq_11, hM⟩ := on_bind hM
            refine on_callV (rest := []) (As := [.int v2, .int (1 : Int32)]) (st1 := [.int q_11.1]) (C := RX5) (ci := 5) (q0 := 0) (wc := [(h_t, .inr (5, [.ref h_t_now, .ref h_t_images, .ref h_t_pad, .ref h_t_net, .ref h_t_second, .ref h_t_renumbering, .ref h_t_table, .ref h_t_marks])), (h_t_net, .inr (0, [.int q_7.1, .ref h_t_net_rows])), (h_t_net_rows, .inl (cI, 7, .inl q_7.2)), (h_t_second, .inr (0, [.int t_second_many, .ref h_t_second_rows])), (h_t_second_rows, .inl (cI, 7, .inl t_second_rows))]) (wr := [(h_t_now, .inr (3, [.int t_now_many, .ref h_t_now_numbers])), (h_t_now_numbers, .inl (cI, 3, .inl t_now_numbers))]) (wc' := [(h_t, .inr (5, [.ref h_t_now, .ref h_t_images, .ref h_t_pad, .ref h_t_net, .ref h_t_second, .ref h_t_renumbering, .ref h_t_table, .ref h_t_marks])), (h_t_net, .inr (0, [.int q_7.1, .ref h_t_net_rows])), (h_t_net_rows, .inl (cI, 7, .inl q_7.2)), (h_t_second, .inr (0, [.int q_11.2.1, .ref h_t_second_rows])), (h_t_second_rows, .inl (cI, 7, .inl q_11.2.2))]) (wf := [(h_t, .inr (5, [.ref h_t_now, .ref h_t_images, .ref h_t_pad, .ref h_t_net, .ref h_t_second, .ref h_t_renumbering, .ref h_t_table, .ref h_t_marks])), (h_t_now, .inr (3, [.int t_now_many, .ref h_t_now_numbers])), (h_t_now_numbers, .inl (cI, 3, .inl t_now_numbers)), (h_t_net, .inr (0, [.int q_7.1, .ref h_t_net_rows])), (h_t_net_rows, .inl (cI, 7, .inl q_7.2)), (h_t_second, .inr (0, [.int q_11.2.1, .ref h_t_second_rows])), (h_t_second_rows, .inl (cI, 7, .inl q_11.2.2))]) (rt := (some (.int q_11.1))) ⟨hx, hb, hml, hown, hts⟩ (k_X5_howManyBy h_t h_t_now h_t_images h_t_pad h_t_net h_t_second h_t_renumbering h_t_table h_t_marks h_t_net_rows h_t_second_rows q_7.1 q_7.2 t_second_many t_second_rows v2 (1 : Int32) q_11 hq_11) (cwV 2 hts gX5_by_X5_howManyBy rfl rfl rfl ⟨rfl, hdX5_howManyBy⟩ ⟨(Nat.le_of_ble_eq_true rfl), (Nat.le_of_ble_eq_true rfl)⟩) hK hN hP hD hS hA [0, 3, 4, 5, 6] [1, 2] [2, 0, 1, 3, 4, 5, 6] rfl rfl rfl rfl (by decide) rfl rfl rfl rfl rfl rfl hl.1 rfl (Nat.le_of_ble_eq_true rfl) rfl dX5_by_65 ⟨Nat.zero_le _, Nat.zero_le _⟩ (fun H locs hP hD hS => ?_)
            have hM := Option.some.inj hM
            subst hM
            rw [← hQ]
            exact on_iret hx hb hr hlk hP hD hS dX5_by_68
        · have hM := on_pos c_8 hM
          refine lv_aload_n hx hb dX5_by_45 rfl (lv_at hl 0 rfl) ?_
          refine lv_iload_n hx hb dX5_by_46 rfl (lv_at hl 2 rfl) ?_
          obtain ⟨q_12, hq_12, hM⟩ := on_bind hM
          refine on_callV (rest := []) (As := [.int v2]) (st1 := [.int q_12.1]) (C := RX5) (ci := 5) (q0 := 0) (wc := [(h_t, .inr (5, [.ref h_t_now, .ref h_t_images, .ref h_t_pad, .ref h_t_net, .ref h_t_second, .ref h_t_renumbering, .ref h_t_table, .ref h_t_marks])), (h_t_net, .inr (0, [.int q_7.1, .ref h_t_net_rows])), (h_t_net_rows, .inl (cI, 7, .inl q_7.2)), (h_t_second, .inr (0, [.int t_second_many, .ref h_t_second_rows])), (h_t_second_rows, .inl (cI, 7, .inl t_second_rows))]) (wr := [(h_t_now, .inr (3, [.int t_now_many, .ref h_t_now_numbers])), (h_t_now_numbers, .inl (cI, 3, .inl t_now_numbers))]) (wc' := [(h_t, .inr (5, [.ref h_t_now, .ref h_t_images, .ref h_t_pad, .ref h_t_net, .ref h_t_second, .ref h_t_renumbering, .ref h_t_table, .ref h_t_marks])), (h_t_net, .inr (0, [.int q_7.1, .ref h_t_net_rows])), (h_t_net_rows, .inl (cI, 7, .inl q_7.2)), (h_t_second, .inr (0, [.int q_12.2.1, .ref h_t_second_rows])), (h_t_second_rows, .inl (cI, 7, .inl q_12.2.2))]) (wf := [(h_t, .inr (5, [.ref h_t_now, .ref h_t_images, .ref h_t_pad, .ref h_t_net, .ref h_t_second, .ref h_t_renumbering, .ref h_t_table, .ref h_t_marks])), (h_t_now, .inr (3, [.int t_now_many, .ref h_t_now_numbers])), (h_t_now_numbers, .inl (cI, 3, .inl t_now_numbers)), (h_t_net, .inr (0, [.int q_7.1, .ref h_t_net_rows])), (h_t_net_rows, .inl (cI, 7, .inl q_7.2)), (h_t_second, .inr (0, [.int q_12.2.1, .ref h_t_second_rows])), (h_t_second_rows, .inl (cI, 7, .inl q_12.2.2))]) (rt := (some (.int q_12.1))) ⟨hx, hb, hml, hown, hts⟩ (k_X5_leastSetBy h_t h_t_now h_t_images h_t_pad h_t_net h_t_second h_t_renumbering h_t_table h_t_marks h_t_net_rows h_t_second_rows q_7.1 q_7.2 t_second_many t_second_rows v2 q_12 hq_12) (cwV 1 hts gX5_by_X5_leastSetBy rfl rfl rfl ⟨rfl, hdX5_leastSetBy⟩ ⟨(Nat.le_of_ble_eq_true rfl), (Nat.le_of_ble_eq_true rfl)⟩) hK hN hP hD hS hA [0, 3, 4, 5, 6] [1, 2] [2, 0, 1, 3, 4, 5, 6] rfl rfl rfl rfl (by decide) rfl rfl rfl rfl rfl rfl hl.1 rfl (Nat.le_of_ble_eq_true rfl) rfl dX5_by_47 ⟨Nat.zero_le _, Nat.zero_le _⟩ (fun H locs hP hD hS => ?_)
          refine lv_goto (tgt := 68) hx hb dX5_by_50 (by decide) ?_
          have hM := Option.some.inj hM
          subst hM
          rw [← hQ]
          exact on_iret hx hb hr hlk hP hD hS dX5_by_68
      · have hM := on_pos c_6 hM
        refine lv_bipush (v := -2) hx hb dX5_by_28 (by decide) ?_
        have hM := Option.some.inj hM
        subst hM
        rw [← hQ]
        exact on_iret hx hb hr hlk hP hD hS dX5_by_30
  · have hM := on_pos c_2 hM
    refine lv_iconst (v := -1) hx hb dX5_by_7 (by decide) ?_
    have hM := Option.some.inj hM
    subst hM
    rw [← hQ]
    exact on_iret hx hb hr hlk hP hD hS dX5_by_8
abbrev rm_X2_numberAsGiven : Room := { frames := 1, cells := 0, slots := 0, locals := 22 }
set_option maxHeartbeats 4000000 in
set_option maxRecDepth 100000 in
theorem k_X2_numberAsGiven {l : Launch} {D : va_G} {cI cJ cZ cS cA : ClassId} (h_p0 : Nat) (h_p0_rows : Nat) (h_p1 : Nat) (p0_many : Int32) (p0_rows : Nat → Int32) (p1 : Nat → Int32)  (out : Int32) (hM : M_X2_numberAsGiven p0_many p0_rows p1 = some out) : on_Con l yX2_numberAsGiven wsX2_numberAsGiven rm_X2_numberAsGiven [.ref h_p0, .ref h_p1] D (on_T cI cJ cZ cS cA) [(h_p0, .inr (0, [.int p0_many, .ref h_p0_rows])), (h_p0_rows, .inl (cI, 7, .inl p0_rows)), (h_p1, .inl (cI, 7, .inl p1))] (some (.int out)) [(h_p0, .inr (0, [.int p0_many, .ref h_p0_rows])), (h_p0_rows, .inl (cI, 7, .inl p0_rows)), (h_p1, .inl (cI, 7, .inl p1))] := by
  unfold M_X2_numberAsGiven at hM
  refine on_enter (cc := cX2_numberAsGiven) (nL := 5) (rt := (some .int)) (own := RX2) (by decide +kernel) rfl rfl (Nat.le_of_ble_eq_true rfl) ?_
  intro p e s m below meth c A ls hx hb hml hr hlk hts hown hA hK hN H locs hP hD hS hl
  have hl : lv_has ls 5 [(0, .ref h_p0), (1, .ref h_p1)] := hl
  generalize hQ : MQ below (on_Q D (some (.int out)) [(h_p0, .inr (0, [.int p0_many, .ref h_p0_rows])), (h_p0_rows, .inl (cI, 7, .inl p0_rows)), (h_p1, .inl (cI, 7, .inl p1))] A) _ s 0 0 A = Q
  generalize hAr : List.toArray ([.ref h_p0, .ref h_p1] : List Value) = args at hts hQ ⊢
  have w1 : ∀ w ∈ wsX00, w ∈ wsX2_numberAsGiven := by decide +kernel
  have w2 := hts (.initialized RX0) (by decide +kernel)
  have w3 := hts (.instanceMethod yX0_joined) (by decide +kernel)
  have w4 := hts (.selects RX0 yX0_joined yX0_joined) (by decide +kernel)
  have lp_17 : ∀ (v3 : Int32), ∀ (n : Nat) (v2 : Int32) (v4 : Int32) (x : Int32), on_loop (fun (s : Int32 × Int32) => B_X2_numberAsGiven_17 v3 p0_many p0_rows p1 s.1 s.2) n (v2, v4) = some x → (∀ (H : Heap) (locs : List Loc), va_P D vwCl [(h_p0, .inr (0, [.int p0_many, .ref h_p0_rows])), (h_p0_rows, .inl (cI, 7, .inl p0_rows)), (h_p1, .inl (cI, 7, .inl p1))] H → va_D A [(h_p0, .inr (0, [.int p0_many, .ref h_p0_rows])), (h_p0_rows, .inl (cI, 7, .inl p0_rows)), (h_p1, .inl (cI, 7, .inl p1))] → va_S A s.heap H locs → ∀ ls : Array Slot, lv_has ls 5 [(0, .ref h_p0), (1, .ref h_p1), (2, .int x), (3, .int v3)] → W p l e rm_X2_numberAsGiven s m args below meth c H locs 0 0 Q (F0 m 48 ls [])) → ∀ (H : Heap) (locs : List Loc), va_P D vwCl [(h_p0, .inr (0, [.int p0_many, .ref h_p0_rows])), (h_p0_rows, .inl (cI, 7, .inl p0_rows)), (h_p1, .inl (cI, 7, .inl p1))] H → va_D A [(h_p0, .inr (0, [.int p0_many, .ref h_p0_rows])), (h_p0_rows, .inl (cI, 7, .inl p0_rows)), (h_p1, .inl (cI, 7, .inl p1))] → va_S A s.heap H locs → ∀ ls : Array Slot, lv_has ls 5 [(0, .ref h_p0), (1, .ref h_p1), (2, .int v2), (3, .int v3), (4, .int v4)] → W p l e rm_X2_numberAsGiven s m args below meth c H locs 0 0 Q (F0 m 17 ls []) := by
    intro v3
    intro n
    induction n with
    | zero =>
      intro v2 v4 x hL
      exact (on_loop0 hL).elim
    | succ n ih =>
      intro v2 v4 x hL K1 H locs hP hD hS ls hl
      obtain ⟨y, hM, hk⟩ := on_loopE hL
      have hM : B_X2_numberAsGiven_17 v3 p0_many p0_rows p1 v2 v4 = some y := hM
      unfold B_X2_numberAsGiven_17 at hM
      refine lv_iload hx hb dX2_numberAsGiven_17 (lv_at hl 4 rfl) ?_
      refine lv_aload_n hx hb dX2_numberAsGiven_19 rfl (lv_at hl 0 rfl) ?_
      refine va_getN (D := D) (ci := 0) (v := .int p0_many) (C := RX0) (T := TX0) (N := 2) hx hb hts w1 hown hK hP 0 rfl rfl 0 (by decide) (va_Nw.use rfl (hN _ (List.mem_of_getElem? (i := 3) rfl))) (fun _ h9 => h9) rfl dX2_numberAsGiven_20 ?_
      refine lv_icmp_ge (tgt := 48) hx hb dX2_numberAsGiven_23 (by decide) (fun c_3 => ?_) (fun c_3 => ?_)
      · have hM := on_pos c_3 hM
        have hk := on_nxR hM hk
        subst hk
        exact K1 _ _ hP hD hS ls (lv_sub hl [0, 1, 2, 3] rfl)
      · have hM := on_neg c_3 hM
        refine lv_iload_n hx hb dX2_numberAsGiven_26 rfl (lv_at hl 2 rfl) ?_
        refine lv_iconst (v := 1) hx hb dX2_numberAsGiven_27 (by decide) ?_
        refine lv_ishl hx hb dX2_numberAsGiven_28 ?_
        refine lv_aload_n hx hb dX2_numberAsGiven_29 rfl (lv_at hl 0 rfl) ?_
        refine lv_aload_n hx hb dX2_numberAsGiven_30 rfl (lv_at hl 1 rfl) ?_
        refine lv_iload_n hx hb dX2_numberAsGiven_31 rfl (lv_at hl 3 rfl) ?_
        obtain ⟨g_4, hM⟩ := on_gdE hM
        refine va_iald hx hb hK hP 2 0 rfl rfl (on_ixE g_4) dX2_numberAsGiven_32 ?_
        refine lv_aload_n hx hb dX2_numberAsGiven_33 rfl (lv_at hl 1 rfl) ?_
        refine lv_iload hx hb dX2_numberAsGiven_34 (lv_at hl 4 rfl) ?_
        obtain ⟨g_5, hM⟩ := on_gdE hM
        refine va_iald hx hb hK hP 2 0 rfl rfl (on_ixE g_5) dX2_numberAsGiven_36 ?_
        obtain ⟨q_6, hq_6, hM⟩ := on_bind hM
        refine on_callVN (rest := [.int (v2 <<< ((1 : Int32) &&& 31))]) (As := [.int (p1 (Int32.toNatClampNeg v3)), .int (p1 (Int32.toNatClampNeg v4))]) (st1 := [.int q_6, .int (v2 <<< ((1 : Int32) &&& 31))]) (C := RX0) (ci := 0) (q0 := 0) (wc := [(h_p0, .inr (0, [.int p0_many, .ref h_p0_rows])), (h_p0_rows, .inl (cI, 7, .inl p0_rows))]) (wr := [(h_p1, .inl (cI, 7, .inl p1))]) (wc' := [(h_p0, .inr (0, [.int p0_many, .ref h_p0_rows])), (h_p0_rows, .inl (cI, 7, .inl p0_rows))]) (wf := [(h_p0, .inr (0, [.int p0_many, .ref h_p0_rows])), (h_p0_rows, .inl (cI, 7, .inl p0_rows)), (h_p1, .inl (cI, 7, .inl p1))]) (rt := (some (.int q_6))) ⟨hx, hb, hml, hown, hts⟩ (k_X0_joined h_p0 h_p0_rows p0_many p0_rows (p1 (Int32.toNatClampNeg v3)) (p1 (Int32.toNatClampNeg v4)) q_6 hq_6) ⟨va_cnB 2 hts gX2_numberAsGiven_X0_joined_n60 rfl rfl rfl (hN _ (List.mem_of_getElem? (i := 42) rfl)) w2 hdX0_joined ⟨(Nat.le_of_ble_eq_true rfl), (Nat.le_of_ble_eq_true rfl)⟩, w3, w4⟩ hK hN hP hD hS hA [0, 1] [2] [1, 2, 0] rfl rfl rfl rfl (by decide) rfl rfl rfl rfl rfl rfl hl.1 rfl (Nat.le_of_ble_eq_true rfl) rfl dX2_numberAsGiven_37 ⟨Nat.zero_le _, Nat.zero_le _⟩ (fun H locs hP hD hS => ?_)
        refine lv_ior hx hb dX2_numberAsGiven_40 ?_
        refine lv_topi (fun v2_7 ev2_7 => ?_)
        have hM := on_letE ev2_7 hM
        refine lv_istore_n (lv' := [(2, .int v2_7), (0, .ref h_p0), (1, .ref h_p1), (3, .int v3), (4, .int v4)]) hx hb dX2_numberAsGiven_41 rfl hl (by decide) rfl (fun ls hl => ?_)
        obtain ⟨v4_8, ev4_8⟩ : ∃ z : Int32, z = v4 + 1 := ⟨_, rfl⟩
        have hM := on_letE ev4_8 hM
        refine lv_iinc (v := v4_8) (lv' := [(4, .int v4_8), (2, .int v2_7), (0, .ref h_p0), (1, .ref h_p1), (3, .int v3)]) hx hb dX2_numberAsGiven_42 hl (k := 4) rfl (by rw [ev4_8]; rfl) (by decide) rfl (fun ls hl => ?_)
        refine lv_goto (tgt := 17) hx hb dX2_numberAsGiven_45 (by decide) ?_
        have hk := on_nxL hM hk
        exact ih v2_7 v4_8 _ hk K1 _ _ hP hD hS ls (lv_sub hl [2, 3, 1, 4, 0] rfl)
  have lp_4 : ∀ (n : Nat) (v2 : Int32) (v3 : Int32) (x : Int32), on_loop (fun (s : Int32 × Int32) => B_X2_numberAsGiven_4 p0_many p0_rows p1 s.1 s.2) n (v2, v3) = some x → (∀ (H : Heap) (locs : List Loc), va_P D vwCl [(h_p0, .inr (0, [.int p0_many, .ref h_p0_rows])), (h_p0_rows, .inl (cI, 7, .inl p0_rows)), (h_p1, .inl (cI, 7, .inl p1))] H → va_D A [(h_p0, .inr (0, [.int p0_many, .ref h_p0_rows])), (h_p0_rows, .inl (cI, 7, .inl p0_rows)), (h_p1, .inl (cI, 7, .inl p1))] → va_S A s.heap H locs → ∀ ls : Array Slot, lv_has ls 5 [(2, .int x)] → W p l e rm_X2_numberAsGiven s m args below meth c H locs 0 0 Q (F0 m 54 ls [])) → ∀ (H : Heap) (locs : List Loc), va_P D vwCl [(h_p0, .inr (0, [.int p0_many, .ref h_p0_rows])), (h_p0_rows, .inl (cI, 7, .inl p0_rows)), (h_p1, .inl (cI, 7, .inl p1))] H → va_D A [(h_p0, .inr (0, [.int p0_many, .ref h_p0_rows])), (h_p0_rows, .inl (cI, 7, .inl p0_rows)), (h_p1, .inl (cI, 7, .inl p1))] → va_S A s.heap H locs → ∀ ls : Array Slot, lv_has ls 5 [(0, .ref h_p0), (1, .ref h_p1), (2, .int v2), (3, .int v3)] → W p l e rm_X2_numberAsGiven s m args below meth c H locs 0 0 Q (F0 m 4 ls []) := by
    intro n
    induction n with
    | zero =>
      intro v2 v3 x hL
      exact (on_loop0 hL).elim
    | succ n ih =>
      intro v2 v3 x hL K1 H locs hP hD hS ls hl
      obtain ⟨y, hM, hk⟩ := on_loopE hL
      have hM : B_X2_numberAsGiven_4 p0_many p0_rows p1 v2 v3 = some y := hM
      unfold B_X2_numberAsGiven_4 at hM
      refine lv_iload_n hx hb dX2_numberAsGiven_4 rfl (lv_at hl 3 rfl) ?_
      refine lv_aload_n hx hb dX2_numberAsGiven_5 rfl (lv_at hl 0 rfl) ?_
      refine va_getN (D := D) (ci := 0) (v := .int p0_many) (C := RX0) (T := TX0) (N := 2) hx hb hts w1 hown hK hP 0 rfl rfl 0 (by decide) (va_Nw.use rfl (hN _ (List.mem_of_getElem? (i := 3) rfl))) (fun _ h9 => h9) rfl dX2_numberAsGiven_6 ?_
      refine lv_icmp_ge (tgt := 54) hx hb dX2_numberAsGiven_9 (by decide) (fun c_1 => ?_) (fun c_1 => ?_)
      · have hM := on_pos c_1 hM
        have hk := on_nxR hM hk
        subst hk
        exact K1 _ _ hP hD hS ls (lv_sub hl [2] rfl)
      · have hM := on_neg c_1 hM
        refine lv_iload_n hx hb dX2_numberAsGiven_12 rfl (lv_at hl 3 rfl) ?_
        refine lv_iconst (v := 1) hx hb dX2_numberAsGiven_13 (by decide) ?_
        refine lv_iadd hx hb dX2_numberAsGiven_14 ?_
        refine lv_topi (fun v4_2 ev4_2 => ?_)
        have hM := on_letE ev4_2 hM
        refine lv_istore (lv' := [(4, .int v4_2), (0, .ref h_p0), (1, .ref h_p1), (2, .int v2), (3, .int v3)]) hx hb dX2_numberAsGiven_15 hl (by decide) rfl (fun ls hl => ?_)
        obtain ⟨q_9, hq_9, hM⟩ := on_bind hM
        refine lp_17 v3 on_F v2 v4_2 q_9 hq_9 (fun H locs hP hD hS ls hl => ?_) H locs hP hD hS ls (lv_sub hl [1, 2, 3, 4, 0] rfl)
        obtain ⟨v3_10, ev3_10⟩ : ∃ z : Int32, z = v3 + 1 := ⟨_, rfl⟩
        have hM := on_letE ev3_10 hM
        refine lv_iinc (v := v3_10) (lv' := [(3, .int v3_10), (0, .ref h_p0), (1, .ref h_p1), (2, .int q_9)]) hx hb dX2_numberAsGiven_48 hl (k := 3) rfl (by rw [ev3_10]; rfl) (by decide) rfl (fun ls hl => ?_)
        refine lv_goto (tgt := 4) hx hb dX2_numberAsGiven_51 (by decide) ?_
        have hk := on_nxL hM hk
        exact ih q_9 v3_10 _ hk K1 _ _ hP hD hS ls (lv_sub hl [1, 2, 3, 0] rfl)
  refine lv_iconst (v := 0) hx hb dX2_numberAsGiven_0 (by decide) ?_
  refine lv_istore_n (lv' := [(2, .int (0 : Int32)), (0, .ref h_p0), (1, .ref h_p1)]) hx hb dX2_numberAsGiven_1 rfl hl (by decide) rfl (fun ls hl => ?_)
  refine lv_iconst (v := 0) hx hb dX2_numberAsGiven_2 (by decide) ?_
  refine lv_istore_n (lv' := [(3, .int (0 : Int32)), (2, .int (0 : Int32)), (0, .ref h_p0), (1, .ref h_p1)]) hx hb dX2_numberAsGiven_3 rfl hl (by decide) rfl (fun ls hl => ?_)
  obtain ⟨q_11, hq_11, hM⟩ := on_bind hM
  refine lp_4  on_F (0 : Int32) (0 : Int32) q_11 hq_11 (fun H locs hP hD hS ls hl => ?_) H locs hP hD hS ls (lv_sub hl [2, 3, 1, 0] rfl)
  refine lv_iload_n hx hb dX2_numberAsGiven_54 rfl (lv_at hl 0 rfl) ?_
  have hM := Option.some.inj hM
  subst hM
  rw [← hQ]
  exact on_iret hx hb hr hlk hP hD hS dX2_numberAsGiven_55
abbrev rm_X2_column : Room := { frames := 0, cells := 0, slots := 0, locals := 0 }
set_option maxHeartbeats 4000000 in
set_option maxRecDepth 100000 in
theorem k_X2_column {l : Launch} {D : va_G} {cI cJ cZ cS cA : ClassId} (h_p0 : Nat) (h_p0_rows : Nat) (h_p1 : Nat) (p0_many : Int32) (p0_rows : Nat → Int32) (p1 : Nat → Int32) (v2 : Int32) (v3 : Int32) (out : Int32) (hM : M_X2_column v2 v3 p0_rows p1 = some out) : on_Con l yX2_column wsX2_column rm_X2_column [.ref h_p0, .ref h_p1, .int v2, .int v3] D (on_T cI cJ cZ cS cA) [(h_p0, .inr (0, [.int p0_many, .ref h_p0_rows])), (h_p0_rows, .inl (cI, 7, .inl p0_rows)), (h_p1, .inl (cI, 7, .inl p1))] (some (.int out)) [(h_p0, .inr (0, [.int p0_many, .ref h_p0_rows])), (h_p0_rows, .inl (cI, 7, .inl p0_rows)), (h_p1, .inl (cI, 7, .inl p1))] := by
  unfold M_X2_column at hM
  refine on_enter (cc := cX2_column) (nL := 6) (rt := (some .int)) (own := RX2) (by decide +kernel) rfl rfl (Nat.le_of_ble_eq_true rfl) ?_
  intro p e s m below meth c A ls hx hb hml hr hlk hts hown hA hK hN H locs hP hD hS hl
  have hl : lv_has ls 6 [(0, .ref h_p0), (1, .ref h_p1), (2, .int v2), (3, .int v3)] := hl
  generalize hQ : MQ below (on_Q D (some (.int out)) [(h_p0, .inr (0, [.int p0_many, .ref h_p0_rows])), (h_p0_rows, .inl (cI, 7, .inl p0_rows)), (h_p1, .inl (cI, 7, .inl p1))] A) _ s 0 0 A = Q
  generalize hAr : List.toArray ([.ref h_p0, .ref h_p1, .int v2, .int v3] : List Value) = args at hts hQ ⊢
  have w1 : ∀ w ∈ wsX00, w ∈ wsX2_column := by decide +kernel
  have lp_6 : ∀ (v2 : Int32) (v3 : Int32), ∀ (n : Nat) (v4 : Int32) (v5 : Int32) (x : Int32), on_loop (fun (s : Int32 × Int32) => B_X2_column_6 v2 v3 p0_rows p1 s.1 s.2) n (v4, v5) = some x → (∀ (H : Heap) (locs : List Loc), va_P D vwCl [(h_p0, .inr (0, [.int p0_many, .ref h_p0_rows])), (h_p0_rows, .inl (cI, 7, .inl p0_rows)), (h_p1, .inl (cI, 7, .inl p1))] H → va_D A [(h_p0, .inr (0, [.int p0_many, .ref h_p0_rows])), (h_p0_rows, .inl (cI, 7, .inl p0_rows)), (h_p1, .inl (cI, 7, .inl p1))] → va_S A s.heap H locs → ∀ ls : Array Slot, lv_has ls 6 [(4, .int x)] → W p l e rm_X2_column s m args below meth c H locs 0 0 Q (F0 m 38 ls [])) → ∀ (H : Heap) (locs : List Loc), va_P D vwCl [(h_p0, .inr (0, [.int p0_many, .ref h_p0_rows])), (h_p0_rows, .inl (cI, 7, .inl p0_rows)), (h_p1, .inl (cI, 7, .inl p1))] H → va_D A [(h_p0, .inr (0, [.int p0_many, .ref h_p0_rows])), (h_p0_rows, .inl (cI, 7, .inl p0_rows)), (h_p1, .inl (cI, 7, .inl p1))] → va_S A s.heap H locs → ∀ ls : Array Slot, lv_has ls 6 [(0, .ref h_p0), (1, .ref h_p1), (2, .int v2), (3, .int v3), (4, .int v4), (5, .int v5)] → W p l e rm_X2_column s m args below meth c H locs 0 0 Q (F0 m 6 ls []) := by
    intro v2 v3
    intro n
    induction n with
    | zero =>
      intro v4 v5 x hL
      exact (on_loop0 hL).elim
    | succ n ih =>
      intro v4 v5 x hL K1 H locs hP hD hS ls hl
      obtain ⟨y, hM, hk⟩ := on_loopE hL
      have hM : B_X2_column_6 v2 v3 p0_rows p1 v4 v5 = some y := hM
      unfold B_X2_column_6 at hM
      refine lv_iload hx hb dX2_column_6 (lv_at hl 5 rfl) ?_
      refine lv_iload_n hx hb dX2_column_8 rfl (lv_at hl 2 rfl) ?_
      refine lv_icmp_ge (tgt := 38) hx hb dX2_column_9 (by decide) (fun c_1 => ?_) (fun c_1 => ?_)
      · have hM := on_pos c_1 hM
        have hk := on_nxR hM hk
        subst hk
        exact K1 _ _ hP hD hS ls (lv_sub hl [4] rfl)
      · have hM := on_neg c_1 hM
        refine lv_iload hx hb dX2_column_12 (lv_at hl 4 rfl) ?_
        refine lv_iconst (v := 1) hx hb dX2_column_14 (by decide) ?_
        refine lv_ishl hx hb dX2_column_15 ?_
        refine lv_aload_n hx hb dX2_column_16 rfl (lv_at hl 0 rfl) ?_
        refine va_getN (D := D) (ci := 0) (v := .ref h_p0_rows) (C := RX0) (T := TX0) (N := 2) hx hb hts w1 hown hK hP 0 rfl rfl 1 (by decide) (va_Nw.use rfl (hN _ (List.mem_of_getElem? (i := 6) rfl))) (fun _ h9 => h9) rfl dX2_column_17 ?_
        refine lv_aload_n hx hb dX2_column_20 rfl (lv_at hl 1 rfl) ?_
        refine lv_iload hx hb dX2_column_21 (lv_at hl 5 rfl) ?_
        obtain ⟨g_2, hM⟩ := on_gdE hM
        refine va_iald hx hb hK hP 2 0 rfl rfl (on_ixE g_2) dX2_column_23 ?_
        obtain ⟨g_3, hM⟩ := on_gdE hM
        refine va_iald hx hb hK hP 1 0 rfl rfl (on_ixE g_3) dX2_column_24 ?_
        refine lv_iload_n hx hb dX2_column_25 rfl (lv_at hl 3 rfl) ?_
        refine lv_ishr hx hb dX2_column_26 ?_
        refine lv_iconst (v := 1) hx hb dX2_column_27 (by decide) ?_
        refine lv_iand hx hb dX2_column_28 ?_
        refine lv_ior hx hb dX2_column_29 ?_
        refine lv_topi (fun v4_4 ev4_4 => ?_)
        have hM := on_letE ev4_4 hM
        refine lv_istore (lv' := [(4, .int v4_4), (0, .ref h_p0), (1, .ref h_p1), (2, .int v2), (3, .int v3), (5, .int v5)]) hx hb dX2_column_30 hl (by decide) rfl (fun ls hl => ?_)
        obtain ⟨v5_5, ev5_5⟩ : ∃ z : Int32, z = v5 + 1 := ⟨_, rfl⟩
        have hM := on_letE ev5_5 hM
        refine lv_iinc (v := v5_5) (lv' := [(5, .int v5_5), (4, .int v4_4), (0, .ref h_p0), (1, .ref h_p1), (2, .int v2), (3, .int v3)]) hx hb dX2_column_32 hl (k := 5) rfl (by rw [ev5_5]; rfl) (by decide) rfl (fun ls hl => ?_)
        refine lv_goto (tgt := 6) hx hb dX2_column_35 (by decide) ?_
        have hk := on_nxL hM hk
        exact ih v4_4 v5_5 _ hk K1 _ _ hP hD hS ls (lv_sub hl [2, 3, 4, 5, 1, 0] rfl)
  refine lv_iconst (v := 0) hx hb dX2_column_0 (by decide) ?_
  refine lv_istore (lv' := [(4, .int (0 : Int32)), (0, .ref h_p0), (1, .ref h_p1), (2, .int v2), (3, .int v3)]) hx hb dX2_column_1 hl (by decide) rfl (fun ls hl => ?_)
  refine lv_iconst (v := 0) hx hb dX2_column_3 (by decide) ?_
  refine lv_istore (lv' := [(5, .int (0 : Int32)), (4, .int (0 : Int32)), (0, .ref h_p0), (1, .ref h_p1), (2, .int v2), (3, .int v3)]) hx hb dX2_column_4 hl (by decide) rfl (fun ls hl => ?_)
  obtain ⟨q_6, hq_6, hM⟩ := on_bind hM
  refine lp_6 v2 v3 on_F (0 : Int32) (0 : Int32) q_6 hq_6 (fun H locs hP hD hS ls hl => ?_) H locs hP hD hS ls (lv_sub hl [2, 3, 4, 5, 1, 0] rfl)
  refine lv_iload hx hb dX2_column_38 (lv_at hl 0 rfl) ?_
  have hM := Option.some.inj hM
  subst hM
  rw [← hQ]
  exact on_iret hx hb hr hlk hP hD hS dX2_column_40
abbrev rm_X2_lowestColumn : Room := { frames := 1, cells := 0, slots := 0, locals := 25 }
set_option maxHeartbeats 4000000 in
set_option maxRecDepth 100000 in
theorem k_X2_lowestColumn {l : Launch} {D : va_G} {cI cJ cZ cS cA : ClassId} (h_p0 : Nat) (h_p0_rows : Nat) (h_p1 : Nat) (p0_many : Int32) (p0_rows : Nat → Int32) (p1 : Nat → Int32) (v2 : Int32) (v3 : Int32) (out : Int32) (hM : M_X2_lowestColumn v2 v3 p0_many p0_rows p1 = some out) : on_Con l yX2_lowestColumn wsX2_lowestColumn rm_X2_lowestColumn [.ref h_p0, .ref h_p1, .int v2, .int v3] D (on_T cI cJ cZ cS cA) [(h_p0, .inr (0, [.int p0_many, .ref h_p0_rows])), (h_p0_rows, .inl (cI, 7, .inl p0_rows)), (h_p1, .inl (cI, 7, .inl p1))] (some (.int out)) [(h_p0, .inr (0, [.int p0_many, .ref h_p0_rows])), (h_p0_rows, .inl (cI, 7, .inl p0_rows)), (h_p1, .inl (cI, 7, .inl p1))] := by
  unfold M_X2_lowestColumn at hM
  refine on_enter (cc := cX2_lowestColumn) (nL := 6) (rt := (some .int)) (own := RX2) (by decide +kernel) rfl rfl (Nat.le_of_ble_eq_true rfl) ?_
  intro p e s m below meth c A ls hx hb hml hr hlk hts hown hA hK hN H locs hP hD hS hl
  have hl : lv_has ls 6 [(0, .ref h_p0), (1, .ref h_p1), (2, .int v2), (3, .int v3)] := hl
  generalize hQ : MQ below (on_Q D (some (.int out)) [(h_p0, .inr (0, [.int p0_many, .ref h_p0_rows])), (h_p0_rows, .inl (cI, 7, .inl p0_rows)), (h_p1, .inl (cI, 7, .inl p1))] A) _ s 0 0 A = Q
  generalize hAr : List.toArray ([.ref h_p0, .ref h_p1, .int v2, .int v3] : List Value) = args at hts hQ ⊢
  have w1 : ∀ w ∈ wsX00, w ∈ wsX2_lowestColumn := by decide +kernel
  have w2 := hts (.methodLink RX2 33 Lib.Math.min.name) (by decide +kernel)
  have w3 := hts (.static Lib.Math.min.name) (by decide +kernel)
  have w4 := hts (.initialized "java/lang/Math") (by decide +kernel)
  have w5 := hts (.code Lib.Math.min.name Lib.Math.min.code 2 (some .int)) (by decide +kernel)
  have lp_8 : ∀ (v2 : Int32) (v3 : Int32), ∀ (n : Nat) (v4 : Int32) (v5 : Int32) (x : Int32), on_loop (fun (s : Int32 × Int32) => B_X2_lowestColumn_8 v2 v3 p0_many p0_rows p1 s.1 s.2) n (v4, v5) = some x → (∀ (H : Heap) (locs : List Loc), va_P D vwCl [(h_p0, .inr (0, [.int p0_many, .ref h_p0_rows])), (h_p0_rows, .inl (cI, 7, .inl p0_rows)), (h_p1, .inl (cI, 7, .inl p1))] H → va_D A [(h_p0, .inr (0, [.int p0_many, .ref h_p0_rows])), (h_p0_rows, .inl (cI, 7, .inl p0_rows)), (h_p1, .inl (cI, 7, .inl p1))] → va_S A s.heap H locs → ∀ ls : Array Slot, lv_has ls 6 [(4, .int x)] → W p l e rm_X2_lowestColumn s m args below meth c H locs 0 0 Q (F0 m 47 ls [])) → ∀ (H : Heap) (locs : List Loc), va_P D vwCl [(h_p0, .inr (0, [.int p0_many, .ref h_p0_rows])), (h_p0_rows, .inl (cI, 7, .inl p0_rows)), (h_p1, .inl (cI, 7, .inl p1))] H → va_D A [(h_p0, .inr (0, [.int p0_many, .ref h_p0_rows])), (h_p0_rows, .inl (cI, 7, .inl p0_rows)), (h_p1, .inl (cI, 7, .inl p1))] → va_S A s.heap H locs → ∀ ls : Array Slot, lv_has ls 6 [(0, .ref h_p0), (1, .ref h_p1), (2, .int v2), (3, .int v3), (4, .int v4), (5, .int v5)] → W p l e rm_X2_lowestColumn s m args below meth c H locs 0 0 Q (F0 m 8 ls []) := by
    intro v2 v3
    intro n
    induction n with
    | zero =>
      intro v4 v5 x hL
      exact (on_loop0 hL).elim
    | succ n ih =>
      intro v4 v5 x hL K1 H locs hP hD hS ls hl
      obtain ⟨y, hM, hk⟩ := on_loopE hL
      have hM : B_X2_lowestColumn_8 v2 v3 p0_many p0_rows p1 v4 v5 = some y := hM
      unfold B_X2_lowestColumn_8 at hM
      refine lv_iload hx hb dX2_lowestColumn_8 (lv_at hl 5 rfl) ?_
      refine lv_aload_n hx hb dX2_lowestColumn_10 rfl (lv_at hl 0 rfl) ?_
      refine va_getN (D := D) (ci := 0) (v := .int p0_many) (C := RX0) (T := TX0) (N := 2) hx hb hts w1 hown hK hP 0 rfl rfl 0 (by decide) (va_Nw.use rfl (hN _ (List.mem_of_getElem? (i := 3) rfl))) (fun _ h9 => h9) rfl dX2_lowestColumn_11 ?_
      refine lv_icmp_ge (tgt := 47) hx hb dX2_lowestColumn_14 (by decide) (fun c_1 => ?_) (fun c_1 => ?_)
      · have hM := on_pos c_1 hM
        have hk := on_nxR hM hk
        subst hk
        exact K1 _ _ hP hD hS ls (lv_sub hl [4] rfl)
      · have hM := on_neg c_1 hM
        refine lv_iload_n hx hb dX2_lowestColumn_17 rfl (lv_at hl 3 rfl) ?_
        refine lv_iload hx hb dX2_lowestColumn_18 (lv_at hl 5 rfl) ?_
        refine lv_ishr hx hb dX2_lowestColumn_20 ?_
        refine lv_iconst (v := 1) hx hb dX2_lowestColumn_21 (by decide) ?_
        refine lv_iand hx hb dX2_lowestColumn_22 ?_
        refine lv_if_ne (tgt := 41) hx hb dX2_lowestColumn_23 (by decide) (fun c_2 => ?_) (fun c_2 => ?_)
        · have hM := on_neg c_2 hM
          obtain ⟨v5_3, ev5_3⟩ : ∃ z : Int32, z = v5 + 1 := ⟨_, rfl⟩
          have hM := on_letE ev5_3 hM
          refine lv_iinc (v := v5_3) (lv' := [(5, .int v5_3), (0, .ref h_p0), (1, .ref h_p1), (2, .int v2), (3, .int v3), (4, .int v4)]) hx hb dX2_lowestColumn_41 hl (k := 5) rfl (by rw [ev5_3]; rfl) (by decide) rfl (fun ls hl => ?_)
          refine lv_goto (tgt := 8) hx hb dX2_lowestColumn_44 (by decide) ?_
          have hk := on_nxL hM hk
          exact ih v4 v5_3 _ hk K1 _ _ hP hD hS ls (lv_sub hl [1, 2, 3, 4, 5, 0] rfl)
        · have hM := on_pos c_2 hM
          refine lv_iload hx hb dX2_lowestColumn_26 (lv_at hl 4 rfl) ?_
          refine lv_aload_n hx hb dX2_lowestColumn_28 rfl (lv_at hl 0 rfl) ?_
          refine lv_aload_n hx hb dX2_lowestColumn_29 rfl (lv_at hl 1 rfl) ?_
          refine lv_iload_n hx hb dX2_lowestColumn_30 rfl (lv_at hl 2 rfl) ?_
          refine lv_iload hx hb dX2_lowestColumn_31 (lv_at hl 5 rfl) ?_
          obtain ⟨q_4, hq_4, hM⟩ := on_bind hM
          refine on_callS (rest := [.int v4]) (As := [.ref h_p0, .ref h_p1, .int v2, .int v5]) (st1 := [.int q_4, .int v4]) (wc := [(h_p0, .inr (0, [.int p0_many, .ref h_p0_rows])), (h_p0_rows, .inl (cI, 7, .inl p0_rows)), (h_p1, .inl (cI, 7, .inl p1))]) (wr := []) (wc' := [(h_p0, .inr (0, [.int p0_many, .ref h_p0_rows])), (h_p0_rows, .inl (cI, 7, .inl p0_rows)), (h_p1, .inl (cI, 7, .inl p1))]) (wf := [(h_p0, .inr (0, [.int p0_many, .ref h_p0_rows])), (h_p0_rows, .inl (cI, 7, .inl p0_rows)), (h_p1, .inl (cI, 7, .inl p1))]) (rt := (some (.int q_4))) ⟨hx, hb, hml, hown, hts⟩ (k_X2_column h_p0 h_p0_rows h_p1 p0_many p0_rows p1 v2 v5 q_4 hq_4) (va_cwS 4 hts gX2_lowestColumn_X2_column rfl rfl rfl hdX2_column ⟨(Nat.le_of_ble_eq_true rfl), (Nat.le_of_ble_eq_true rfl)⟩) hK hN hP hD hS hA [0, 1, 2] [] [0, 1, 2] rfl rfl rfl rfl (by decide) rfl rfl rfl hl.1 rfl (Nat.le_of_ble_eq_true rfl) rfl dX2_lowestColumn_33 ⟨Nat.zero_le _, Nat.zero_le _⟩ (fun H locs hP hD hS => ?_)
          refine va_mmin (rest := []) hx hb (hml.trans hl.1.symm) hown w2 w3 w4 w5 (Nat.le_of_ble_eq_true rfl) (Nat.le_of_ble_eq_true rfl) (Nat.le_refl _) (Nat.le_refl _) dX2_lowestColumn_36 ?_
          refine lv_topi (fun v4_5 ev4_5 => ?_)
          have hM := on_letE ev4_5 hM
          refine lv_istore (lv' := [(4, .int v4_5), (0, .ref h_p0), (1, .ref h_p1), (2, .int v2), (3, .int v3), (5, .int v5)]) hx hb dX2_lowestColumn_39 hl (by decide) rfl (fun ls hl => ?_)
          obtain ⟨v5_6, ev5_6⟩ : ∃ z : Int32, z = v5 + 1 := ⟨_, rfl⟩
          have hM := on_letE ev5_6 hM
          refine lv_iinc (v := v5_6) (lv' := [(5, .int v5_6), (4, .int v4_5), (0, .ref h_p0), (1, .ref h_p1), (2, .int v2), (3, .int v3)]) hx hb dX2_lowestColumn_41 hl (k := 5) rfl (by rw [ev5_6]; rfl) (by decide) rfl (fun ls hl => ?_)
          refine lv_goto (tgt := 8) hx hb dX2_lowestColumn_44 (by decide) ?_
          have hk := on_nxL hM hk
          exact ih v4_5 v5_6 _ hk K1 _ _ hP hD hS ls (lv_sub hl [2, 3, 4, 5, 1, 0] rfl)
  refine lv_sipush (v := 128) hx hb dX2_lowestColumn_0 (by decide) ?_
  refine lv_istore (lv' := [(4, .int (128 : Int32)), (0, .ref h_p0), (1, .ref h_p1), (2, .int v2), (3, .int v3)]) hx hb dX2_lowestColumn_3 hl (by decide) rfl (fun ls hl => ?_)
  refine lv_iconst (v := 0) hx hb dX2_lowestColumn_5 (by decide) ?_
  refine lv_istore (lv' := [(5, .int (0 : Int32)), (4, .int (128 : Int32)), (0, .ref h_p0), (1, .ref h_p1), (2, .int v2), (3, .int v3)]) hx hb dX2_lowestColumn_6 hl (by decide) rfl (fun ls hl => ?_)
  obtain ⟨q_7, hq_7, hM⟩ := on_bind hM
  refine lp_8 v2 v3 on_F (128 : Int32) (0 : Int32) q_7 hq_7 (fun H locs hP hD hS ls hl => ?_) H locs hP hD hS ls (lv_sub hl [2, 3, 4, 5, 1, 0] rfl)
  refine lv_iload hx hb dX2_lowestColumn_47 (lv_at hl 0 rfl) ?_
  have hM := Option.some.inj hM
  subst hM
  rw [← hQ]
  exact on_iret hx hb hr hlk hP hD hS dX2_lowestColumn_49
abbrev rm_X0_areTwins : Room := { frames := 0, cells := 0, slots := 0, locals := 0 }
set_option maxHeartbeats 4000000 in
set_option maxRecDepth 100000 in
theorem k_X0_areTwins {l : Launch} {D : va_G} {cI cJ cZ cS cA : ClassId} (h_t : Nat) (h_t_rows : Nat) (t_many : Int32) (t_rows : Nat → Int32) (v1 : Int32) (v2 : Int32) (out : Int32) (hM : M_X0_areTwins v1 v2 t_rows = some out) : on_Con l yX0_areTwins wsX0_areTwins rm_X0_areTwins [.ref h_t, .int v1, .int v2] D (on_T cI cJ cZ cS cA) [(h_t, .inr (0, [.int t_many, .ref h_t_rows])), (h_t_rows, .inl (cI, 7, .inl t_rows))] (some (.int out)) [(h_t, .inr (0, [.int t_many, .ref h_t_rows])), (h_t_rows, .inl (cI, 7, .inl t_rows))] := by
  unfold M_X0_areTwins at hM
  refine on_enter (cc := cX0_areTwins) (nL := 3) (rt := (some .boolean)) (own := RX0) (by decide +kernel) rfl rfl (Nat.le_of_ble_eq_true rfl) ?_
  intro p e s m below meth c A ls hx hb hml hr hlk hts hown hA hK hN H locs hP hD hS hl
  have hl : lv_has ls 3 [(0, .ref h_t), (1, .int v1), (2, .int v2)] := hl
  generalize hQ : MQ below (on_Q D (some (.int out)) [(h_t, .inr (0, [.int t_many, .ref h_t_rows])), (h_t_rows, .inl (cI, 7, .inl t_rows))] A) _ s 0 0 A = Q
  generalize hAr : List.toArray ([.ref h_t, .int v1, .int v2] : List Value) = args at hts hQ ⊢
  have w1 := hts (.fieldLink RX0 15 "OddNets$Net" "rows" "[I") (by decide +kernel)
  have w2 : ∀ w ∈ wsX00, w ∈ wsX0_areTwins := by decide +kernel
  refine lv_aload_n hx hb dX0_areTwins_0 rfl (lv_at hl 0 rfl) ?_
  refine va_get (D := D) (ci := 0) (v := .ref h_t_rows) (C := RX0) (T := TX0) (N := 2) hx hb hts w2 hown hK hP 0 rfl rfl 1 (by decide) w1 (fun _ h9 => h9) rfl dX0_areTwins_1 ?_
  refine lv_iload_n hx hb dX0_areTwins_4 rfl (lv_at hl 1 rfl) ?_
  obtain ⟨g_1, hM⟩ := on_gdE hM
  refine va_iald hx hb hK hP 1 0 rfl rfl (on_ixE g_1) dX0_areTwins_5 ?_
  refine lv_aload_n hx hb dX0_areTwins_6 rfl (lv_at hl 0 rfl) ?_
  refine va_get (D := D) (ci := 0) (v := .ref h_t_rows) (C := RX0) (T := TX0) (N := 2) hx hb hts w2 hown hK hP 0 rfl rfl 1 (by decide) w1 (fun _ h9 => h9) rfl dX0_areTwins_7 ?_
  refine lv_iload_n hx hb dX0_areTwins_10 rfl (lv_at hl 2 rfl) ?_
  obtain ⟨g_2, hM⟩ := on_gdE hM
  refine va_iald hx hb hK hP 1 0 rfl rfl (on_ixE g_2) dX0_areTwins_11 ?_
  refine lv_ixor hx hb dX0_areTwins_12 ?_
  refine lv_iconst (v := 1) hx hb dX0_areTwins_13 (by decide) ?_
  refine lv_iload_n hx hb dX0_areTwins_14 rfl (lv_at hl 1 rfl) ?_
  refine lv_ishl hx hb dX0_areTwins_15 ?_
  refine lv_iconst (v := 1) hx hb dX0_areTwins_16 (by decide) ?_
  refine lv_iload_n hx hb dX0_areTwins_17 rfl (lv_at hl 2 rfl) ?_
  refine lv_ishl hx hb dX0_areTwins_18 ?_
  refine lv_ior hx hb dX0_areTwins_19 ?_
  refine lv_iconst (v := -1) hx hb dX0_areTwins_20 (by decide) ?_
  refine lv_ixor hx hb dX0_areTwins_21 ?_
  refine lv_iand hx hb dX0_areTwins_22 ?_
  refine lv_if_ne (tgt := 30) hx hb dX0_areTwins_23 (by decide) (fun c_3 => ?_) (fun c_3 => ?_)
  · have hM := on_neg c_3 hM
    refine lv_iconst (v := 0) hx hb dX0_areTwins_30 (by decide) ?_
    have hM := Option.some.inj hM
    subst hM
    rw [← hQ]
    exact on_zret hx hb hr hlk hP hD hS rfl dX0_areTwins_31
  · have hM := on_pos c_3 hM
    refine lv_iconst (v := 1) hx hb dX0_areTwins_26 (by decide) ?_
    refine lv_goto (tgt := 31) hx hb dX0_areTwins_27 (by decide) ?_
    have hM := Option.some.inj hM
    subst hM
    rw [← hQ]
    exact on_zret hx hb hr hlk hP hD hS rfl dX0_areTwins_31
abbrev rm_X2_hasTwin : Room := { frames := 1, cells := 0, slots := 0, locals := 22 }
set_option maxHeartbeats 4000000 in
set_option maxRecDepth 100000 in
theorem k_X2_hasTwin {l : Launch} {D : va_G} {cI cJ cZ cS cA : ClassId} (h_p0 : Nat) (h_p0_rows : Nat) (p0_many : Int32) (p0_rows : Nat → Int32) (v1 : Int32) (v2 : Int32) (out : Int32) (hM : M_X2_hasTwin v1 v2 p0_many p0_rows = some out) : on_Con l yX2_hasTwin wsX2_hasTwin rm_X2_hasTwin [.ref h_p0, .int v1, .int v2] D (on_T cI cJ cZ cS cA) [(h_p0, .inr (0, [.int p0_many, .ref h_p0_rows])), (h_p0_rows, .inl (cI, 7, .inl p0_rows))] (some (.int out)) [(h_p0, .inr (0, [.int p0_many, .ref h_p0_rows])), (h_p0_rows, .inl (cI, 7, .inl p0_rows))] := by
  unfold M_X2_hasTwin at hM
  refine on_enter (cc := cX2_hasTwin) (nL := 4) (rt := (some .boolean)) (own := RX2) (by decide +kernel) rfl rfl (Nat.le_of_ble_eq_true rfl) ?_
  intro p e s m below meth c A ls hx hb hml hr hlk hts hown hA hK hN H locs hP hD hS hl
  have hl : lv_has ls 4 [(0, .ref h_p0), (1, .int v1), (2, .int v2)] := hl
  generalize hQ : MQ below (on_Q D (some (.int out)) [(h_p0, .inr (0, [.int p0_many, .ref h_p0_rows])), (h_p0_rows, .inl (cI, 7, .inl p0_rows))] A) _ s 0 0 A = Q
  generalize hAr : List.toArray ([.ref h_p0, .int v1, .int v2] : List Value) = args at hts hQ ⊢
  have w1 : ∀ w ∈ wsX00, w ∈ wsX2_hasTwin := by decide +kernel
  have w2 := hts (.initialized RX0) (by decide +kernel)
  have w3 := hts (.instanceMethod yX0_areTwins) (by decide +kernel)
  have w4 := hts (.selects RX0 yX0_areTwins yX0_areTwins) (by decide +kernel)
  have lp_2 : ∀ (v1 : Int32) (v2 : Int32), ∀ (n : Nat) (v3 : Int32) (x : Int32 ⊕ Unit), on_loop (fun (s : Int32) => B_X2_hasTwin_2 v1 v2 p0_many p0_rows s) n v3 = some x → (∀ u, x = Sum.inr u → ∀ (H : Heap) (locs : List Loc), va_P D vwCl [(h_p0, .inr (0, [.int p0_many, .ref h_p0_rows])), (h_p0_rows, .inl (cI, 7, .inl p0_rows))] H → va_D A [(h_p0, .inr (0, [.int p0_many, .ref h_p0_rows])), (h_p0_rows, .inl (cI, 7, .inl p0_rows))] → va_S A s.heap H locs → ∀ ls : Array Slot, lv_has ls 4 [] → W p l e rm_X2_hasTwin s m args below meth c H locs 0 0 Q (F0 m 36 ls [])) → (∀ o, x = Sum.inl o → o = out) → ∀ (H : Heap) (locs : List Loc), va_P D vwCl [(h_p0, .inr (0, [.int p0_many, .ref h_p0_rows])), (h_p0_rows, .inl (cI, 7, .inl p0_rows))] H → va_D A [(h_p0, .inr (0, [.int p0_many, .ref h_p0_rows])), (h_p0_rows, .inl (cI, 7, .inl p0_rows))] → va_S A s.heap H locs → ∀ ls : Array Slot, lv_has ls 4 [(0, .ref h_p0), (1, .int v1), (2, .int v2), (3, .int v3)] → W p l e rm_X2_hasTwin s m args below meth c H locs 0 0 Q (F0 m 2 ls []) := by
    intro v1 v2
    intro n
    induction n with
    | zero =>
      intro v3 x hL
      exact (on_loop0 hL).elim
    | succ n ih =>
      intro v3 x hL K1 K2 H locs hP hD hS ls hl
      obtain ⟨y, hM, hk⟩ := on_loopE hL
      have hM : B_X2_hasTwin_2 v1 v2 p0_many p0_rows v3 = some y := hM
      unfold B_X2_hasTwin_2 at hM
      refine lv_iload_n hx hb dX2_hasTwin_2 rfl (lv_at hl 3 rfl) ?_
      refine lv_aload_n hx hb dX2_hasTwin_3 rfl (lv_at hl 0 rfl) ?_
      refine va_getN (D := D) (ci := 0) (v := .int p0_many) (C := RX0) (T := TX0) (N := 2) hx hb hts w1 hown hK hP 0 rfl rfl 0 (by decide) (va_Nw.use rfl (hN _ (List.mem_of_getElem? (i := 3) rfl))) (fun _ h9 => h9) rfl dX2_hasTwin_4 ?_
      refine lv_icmp_ge (tgt := 36) hx hb dX2_hasTwin_7 (by decide) (fun c_1 => ?_) (fun c_1 => ?_)
      · have hM := on_pos c_1 hM
        have hk := on_nxR hM hk
        subst hk
        exact K1 _ rfl _ _ hP hD hS ls (lv_sub hl [] rfl)
      · have hM := on_neg c_1 hM
        refine lv_iload_n hx hb dX2_hasTwin_10 rfl (lv_at hl 2 rfl) ?_
        refine lv_iload_n hx hb dX2_hasTwin_11 rfl (lv_at hl 3 rfl) ?_
        refine lv_ishr hx hb dX2_hasTwin_12 ?_
        refine lv_iconst (v := 1) hx hb dX2_hasTwin_13 (by decide) ?_
        refine lv_iand hx hb dX2_hasTwin_14 ?_
        refine lv_iconst (v := 1) hx hb dX2_hasTwin_15 (by decide) ?_
        refine lv_icmp_ne (tgt := 30) hx hb dX2_hasTwin_16 (by decide) (fun c_2 => ?_) (fun c_2 => ?_)
        · have hM := on_neg c_2 hM
          obtain ⟨v3_3, ev3_3⟩ : ∃ z : Int32, z = v3 + 1 := ⟨_, rfl⟩
          have hM := on_letE ev3_3 hM
          refine lv_iinc (v := v3_3) (lv' := [(3, .int v3_3), (0, .ref h_p0), (1, .int v1), (2, .int v2)]) hx hb dX2_hasTwin_30 hl (k := 3) rfl (by rw [ev3_3]; rfl) (by decide) rfl (fun ls hl => ?_)
          refine lv_goto (tgt := 2) hx hb dX2_hasTwin_33 (by decide) ?_
          have hk := on_nxL hM hk
          exact ih v3_3 _ hk K1 K2 _ _ hP hD hS ls (lv_sub hl [1, 2, 3, 0] rfl)
        · have hM := on_pos c_2 hM
          refine lv_aload_n hx hb dX2_hasTwin_19 rfl (lv_at hl 0 rfl) ?_
          refine lv_iload_n hx hb dX2_hasTwin_20 rfl (lv_at hl 1 rfl) ?_
          refine lv_iload_n hx hb dX2_hasTwin_21 rfl (lv_at hl 3 rfl) ?_
          obtain ⟨q_4, hq_4, hM⟩ := on_bind hM
          refine on_callVN (rest := []) (As := [.int v1, .int v3]) (st1 := [.int q_4]) (C := RX0) (ci := 0) (q0 := 0) (wc := [(h_p0, .inr (0, [.int p0_many, .ref h_p0_rows])), (h_p0_rows, .inl (cI, 7, .inl p0_rows))]) (wr := []) (wc' := [(h_p0, .inr (0, [.int p0_many, .ref h_p0_rows])), (h_p0_rows, .inl (cI, 7, .inl p0_rows))]) (wf := [(h_p0, .inr (0, [.int p0_many, .ref h_p0_rows])), (h_p0_rows, .inl (cI, 7, .inl p0_rows))]) (rt := (some (.int q_4))) ⟨hx, hb, hml, hown, hts⟩ (k_X0_areTwins h_p0 h_p0_rows p0_many p0_rows v1 v3 q_4 hq_4) ⟨va_cnB 2 hts gX2_hasTwin_X0_areTwins_n56 rfl rfl rfl (hN _ (List.mem_of_getElem? (i := 46) rfl)) w2 hdX0_areTwins ⟨(Nat.le_of_ble_eq_true rfl), (Nat.le_of_ble_eq_true rfl)⟩, w3, w4⟩ hK hN hP hD hS hA [0, 1] [] [0, 1] rfl rfl rfl rfl (by decide) rfl rfl rfl rfl rfl rfl hl.1 rfl (Nat.le_of_ble_eq_true rfl) rfl dX2_hasTwin_22 ⟨Nat.zero_le _, Nat.zero_le _⟩ (fun H locs hP hD hS => ?_)
          refine lv_if_eq (tgt := 30) hx hb dX2_hasTwin_25 (by decide) (fun c_5 => ?_) (fun c_5 => ?_)
          · have hM := on_pos c_5 hM
            obtain ⟨v3_6, ev3_6⟩ : ∃ z : Int32, z = v3 + 1 := ⟨_, rfl⟩
            have hM := on_letE ev3_6 hM
            refine lv_iinc (v := v3_6) (lv' := [(3, .int v3_6), (0, .ref h_p0), (1, .int v1), (2, .int v2)]) hx hb dX2_hasTwin_30 hl (k := 3) rfl (by rw [ev3_6]; rfl) (by decide) rfl (fun ls hl => ?_)
            refine lv_goto (tgt := 2) hx hb dX2_hasTwin_33 (by decide) ?_
            have hk := on_nxL hM hk
            exact ih v3_6 _ hk K1 K2 _ _ hP hD hS ls (lv_sub hl [1, 2, 3, 0] rfl)
          · have hM := on_neg c_5 hM
            refine lv_iconst (v := 1) hx hb dX2_hasTwin_28 (by decide) ?_
            have hk := on_nxR hM hk
            subst hk
            have ho := K2 _ rfl
            subst ho
            rw [← hQ]
            exact on_zret hx hb hr hlk hP hD hS rfl dX2_hasTwin_29
  refine lv_iconst (v := 0) hx hb dX2_hasTwin_0 (by decide) ?_
  refine lv_istore_n (lv' := [(3, .int (0 : Int32)), (0, .ref h_p0), (1, .int v1), (2, .int v2)]) hx hb dX2_hasTwin_1 rfl hl (by decide) rfl (fun ls hl => ?_)
  obtain ⟨q_7, hq_7, hM⟩ := on_bind hM
  refine lp_2 v1 v2 on_F (0 : Int32) q_7 hq_7 (fun u_8 hv H locs hP hD hS ls hl => ?_) (fun o ho => ?_) H locs hP hD hS ls (lv_sub hl [1, 2, 3, 0] rfl)
  · subst hv
    have hM := on_elR hM
    refine lv_iconst (v := 0) hx hb dX2_hasTwin_36 (by decide) ?_
    have hM := Option.some.inj hM
    subst hM
    rw [← hQ]
    exact on_zret hx hb hr hlk hP hD hS rfl dX2_hasTwin_37
  · subst ho
    have hM := on_elL hM
    exact Option.some.inj hM
abbrev rm_X2_leastNumber (d : Nat) : Room := { frames := 2 + d, cells := 0, slots := 0, locals := 50 + d * 28 }
theorem rrl_X2_leastNumber (d : Nat) : 8 + (9 + 11) + (rm_X2_leastNumber d).locals ≤ (rm_X2_leastNumber (d + 1)).locals := by
  show 8 + (9 + 11) + (50 + d * 28) ≤ 50 + (d + 1) * 28
  omega
set_option maxHeartbeats 4000000 in
set_option maxRecDepth 100000 in
theorem k_X2_leastNumber {l : Launch} {D : va_G} {cI cJ cZ cS cA : ClassId} : ∀ (d : Nat) (h_p0 : Nat) (h_p0_rows : Nat) (h_p1 : Nat) (p0_many : Int32) (p0_rows : Nat → Int32) (p1 : Nat → Int32) (v2 : Int32) (v3 : Int32) (out : Int32 × (Nat → Int32)) (hM : M_X2_leastNumber d v2 v3 p0_many p0_rows p1 = some out), on_Con l yX2_leastNumber wsX2_leastNumber (rm_X2_leastNumber d) [.ref h_p0, .ref h_p1, .int v2, .int v3] D (on_T cI cJ cZ cS cA) [(h_p0, .inr (0, [.int p0_many, .ref h_p0_rows])), (h_p0_rows, .inl (cI, 7, .inl p0_rows)), (h_p1, .inl (cI, 7, .inl p1))] (some (.int out.1)) [(h_p0, .inr (0, [.int p0_many, .ref h_p0_rows])), (h_p0_rows, .inl (cI, 7, .inl p0_rows)), (h_p1, .inl (cI, 7, .inl out.2))] := by
  intro d
  induction d with
  | zero =>
    intro h_p0 h_p0_rows h_p1 p0_many p0_rows p1 v2 v3 out hM
    have hM : none = some out := hM
    cases hM
  | succ d ihd =>
  intro h_p0 h_p0_rows h_p1 p0_many p0_rows p1 v2 v3 out hM
  have hM : (if v2 < p0_many then ((M_X2_lowestColumn v2 v3 p0_many p0_rows p1).bind (fun q_2 => ((M_X5_pairsOf p0_many).bind (fun q_3 => (on_let (((1 : Int32) <<< (q_3 &&& 31)) - (1 : Int32)) (fun (v5_4 : Int32) => ((on_loop (fun (s : Int32 × Int32 × Int32 × (Nat → Int32)) => B_X2_leastNumber_42 (M_X2_leastNumber d) v2 v3 q_2 p0_many p0_rows s.1 s.2.1 s.2.2.1 s.2.2.2) on_F (v5_4, (0 : Int32), (0 : Int32), p1)).bind (fun q_33 => (some (q_33.1, q_33.2)))))))))) else ((M_X2_numberAsGiven p0_many p0_rows p1).bind (fun q_34 => (some (q_34, p1))))) = some out := hM
  refine on_enter (cc := cX2_leastNumber) (nL := 9) (rt := (some .int)) (own := RX2) (by decide +kernel) rfl rfl (Nat.le_of_ble_eq_true rfl) ?_
  intro p e s m below meth c A ls hx hb hml hr hlk hts hown hA hK hN H locs hP hD hS hl
  have hl : lv_has ls 9 [(0, .ref h_p0), (1, .ref h_p1), (2, .int v2), (3, .int v3)] := hl
  generalize hQ : MQ below (on_Q D (some (.int out.1)) [(h_p0, .inr (0, [.int p0_many, .ref h_p0_rows])), (h_p0_rows, .inl (cI, 7, .inl p0_rows)), (h_p1, .inl (cI, 7, .inl out.2))] A) _ s 0 0 A = Q
  generalize hAr : List.toArray ([.ref h_p0, .ref h_p1, .int v2, .int v3] : List Value) = args at hts hQ ⊢
  have w1 : ∀ w ∈ wsX00, w ∈ wsX2_leastNumber := by decide +kernel
  have w2 := hts (.initialized RX5) (by decide +kernel)
  have w3 := hts (.static yX5_pairsOf) (by decide +kernel)
  have w4 := hts (.methodLink RX2 33 Lib.Math.min.name) (by decide +kernel)
  have w5 := hts (.static Lib.Math.min.name) (by decide +kernel)
  have w6 := hts (.initialized "java/lang/Math") (by decide +kernel)
  have w7 := hts (.code Lib.Math.min.name Lib.Math.min.code 2 (some .int)) (by decide +kernel)
  have lp_42 : ∀ (v2 : Int32) (v3 : Int32) (v4 : Int32), ∀ (n : Nat) (v5 : Int32) (v6 : Int32) (v7 : Int32) (p1 : Nat → Int32) (x : Int32 × (Nat → Int32)), on_loop (fun (s : Int32 × Int32 × Int32 × (Nat → Int32)) => B_X2_leastNumber_42 (M_X2_leastNumber d) v2 v3 v4 p0_many p0_rows s.1 s.2.1 s.2.2.1 s.2.2.2) n (v5, v6, v7, p1) = some x → (∀ (H : Heap) (locs : List Loc), va_P D vwCl [(h_p0, .inr (0, [.int p0_many, .ref h_p0_rows])), (h_p0_rows, .inl (cI, 7, .inl p0_rows)), (h_p1, .inl (cI, 7, .inl x.2))] H → va_D A [(h_p0, .inr (0, [.int p0_many, .ref h_p0_rows])), (h_p0_rows, .inl (cI, 7, .inl p0_rows)), (h_p1, .inl (cI, 7, .inl x.2))] → va_S A s.heap H locs → ∀ ls : Array Slot, lv_has ls 9 [(5, .int x.1)] → W p l e (rm_X2_leastNumber (d + 1)) s m args below meth c H locs 0 0 Q (F0 m 137 ls [])) → ∀ (H : Heap) (locs : List Loc), va_P D vwCl [(h_p0, .inr (0, [.int p0_many, .ref h_p0_rows])), (h_p0_rows, .inl (cI, 7, .inl p0_rows)), (h_p1, .inl (cI, 7, .inl p1))] H → va_D A [(h_p0, .inr (0, [.int p0_many, .ref h_p0_rows])), (h_p0_rows, .inl (cI, 7, .inl p0_rows)), (h_p1, .inl (cI, 7, .inl p1))] → va_S A s.heap H locs → ∀ ls : Array Slot, lv_has ls 9 [(0, .ref h_p0), (1, .ref h_p1), (2, .int v2), (3, .int v3), (4, .int v4), (5, .int v5), (6, .int v6), (7, .int v7)] → W p l e (rm_X2_leastNumber (d + 1)) s m args below meth c H locs 0 0 Q (F0 m 42 ls []) := by
    intro v2 v3 v4
    intro n
    induction n with
    | zero =>
      intro v5 v6 v7 p1 x hL
      exact (on_loop0 hL).elim
    | succ n ih =>
      intro v5 v6 v7 p1 x hL K1 H locs hP hD hS ls hl
      obtain ⟨y, hM, hk⟩ := on_loopE hL
      have hM : B_X2_leastNumber_42 (M_X2_leastNumber d) v2 v3 v4 p0_many p0_rows v5 v6 v7 p1 = some y := hM
      unfold B_X2_leastNumber_42 at hM
      refine lv_iload hx hb dX2_leastNumber_42 (lv_at hl 7 rfl) ?_
      refine lv_aload_n hx hb dX2_leastNumber_44 rfl (lv_at hl 0 rfl) ?_
      refine va_getN (D := D) (ci := 0) (v := .int p0_many) (C := RX0) (T := TX0) (N := 2) hx hb hts w1 hown hK hP 0 rfl rfl 0 (by decide) (va_Nw.use rfl (hN _ (List.mem_of_getElem? (i := 3) rfl))) (fun _ h9 => h9) rfl dX2_leastNumber_45 ?_
      refine lv_icmp_ge (tgt := 137) hx hb dX2_leastNumber_48 (by decide) (fun c_5 => ?_) (fun c_5 => ?_)
      · have hM := on_pos c_5 hM
        have hk := on_nxR hM hk
        subst hk
        exact K1 _ _ hP hD hS ls (lv_sub hl [5] rfl)
      · have hM := on_neg c_5 hM
        refine lv_iload_n hx hb dX2_leastNumber_51 rfl (lv_at hl 3 rfl) ?_
        refine lv_iload hx hb dX2_leastNumber_52 (lv_at hl 7 rfl) ?_
        refine lv_ishr hx hb dX2_leastNumber_54 ?_
        refine lv_iconst (v := 1) hx hb dX2_leastNumber_55 (by decide) ?_
        refine lv_iand hx hb dX2_leastNumber_56 ?_
        refine lv_if_ne (tgt := 64) hx hb dX2_leastNumber_57 (by decide) (fun c_6 => ?_) (fun c_6 => ?_)
        · have hM := on_neg c_6 hM
          refine lv_iconst (v := 0) hx hb dX2_leastNumber_64 (by decide) ?_
          refine lv_istore (lv' := [(8, .int (0 : Int32)), (0, .ref h_p0), (1, .ref h_p1), (2, .int v2), (3, .int v3), (4, .int v4), (5, .int v5), (6, .int v6), (7, .int v7)]) hx hb dX2_leastNumber_65 hl (by decide) rfl (fun ls hl => ?_)
          refine lv_iload hx hb dX2_leastNumber_67 (lv_at hl 0 rfl) ?_
          refine lv_if_eq (tgt := 131) hx hb dX2_leastNumber_69 (by decide) (fun c_7 => ?_) (fun c_7 => ?_)
          · have hM := on_pos c_7 hM
            obtain ⟨v7_8, ev7_8⟩ : ∃ z : Int32, z = v7 + 1 := ⟨_, rfl⟩
            have hM := on_letE ev7_8 hM
            refine lv_iinc (v := v7_8) (lv' := [(7, .int v7_8), (8, .int (0 : Int32)), (0, .ref h_p0), (1, .ref h_p1), (2, .int v2), (3, .int v3), (4, .int v4), (5, .int v5), (6, .int v6)]) hx hb dX2_leastNumber_131 hl (k := 8) rfl (by rw [ev7_8]; rfl) (by decide) rfl (fun ls hl => ?_)
            refine lv_goto (tgt := 42) hx hb dX2_leastNumber_134 (by decide) ?_
            have hk := on_nxL hM hk
            exact ih v5 v6 v7_8 p1 _ hk K1 _ _ hP hD hS ls (lv_sub hl [2, 3, 4, 5, 6, 7, 8, 0] rfl)
          · have hM := on_neg c_7 hM
            refine lv_aload_n hx hb dX2_leastNumber_72 rfl (lv_at hl 1 rfl) ?_
            refine lv_aload_n hx hb dX2_leastNumber_73 rfl (lv_at hl 2 rfl) ?_
            refine lv_iload_n hx hb dX2_leastNumber_74 rfl (lv_at hl 3 rfl) ?_
            refine lv_iload hx hb dX2_leastNumber_75 (lv_at hl 8 rfl) ?_
            obtain ⟨q_9, hq_9, hM⟩ := on_bind hM
            refine on_callS (rest := []) (As := [.ref h_p0, .ref h_p1, .int v2, .int v7]) (st1 := [.int q_9]) (wc := [(h_p0, .inr (0, [.int p0_many, .ref h_p0_rows])), (h_p0_rows, .inl (cI, 7, .inl p0_rows)), (h_p1, .inl (cI, 7, .inl p1))]) (wr := []) (wc' := [(h_p0, .inr (0, [.int p0_many, .ref h_p0_rows])), (h_p0_rows, .inl (cI, 7, .inl p0_rows)), (h_p1, .inl (cI, 7, .inl p1))]) (wf := [(h_p0, .inr (0, [.int p0_many, .ref h_p0_rows])), (h_p0_rows, .inl (cI, 7, .inl p0_rows)), (h_p1, .inl (cI, 7, .inl p1))]) (rt := (some (.int q_9))) ⟨hx, hb, hml, hown, hts⟩ (k_X2_column h_p0 h_p0_rows h_p1 p0_many p0_rows p1 v2 v7 q_9 hq_9) (va_cwS 4 hts gX2_leastNumber_X2_column rfl rfl rfl hdX2_column ⟨(on_le1 (Nat.le_of_ble_eq_true rfl)), (on_le1 (Nat.le_of_ble_eq_true rfl))⟩) hK hN hP hD hS hA [0, 1, 2] [] [0, 1, 2] rfl rfl rfl rfl (by decide) rfl rfl rfl hl.1 rfl (Nat.le_of_ble_eq_true rfl) rfl dX2_leastNumber_77 ⟨Nat.zero_le _, Nat.zero_le _⟩ (fun H locs hP hD hS => ?_)
            refine lv_iload hx hb dX2_leastNumber_80 (lv_at hl 5 rfl) ?_
            refine lv_icmp_ne (tgt := 131) hx hb dX2_leastNumber_82 (by decide) (fun c_10 => ?_) (fun c_10 => ?_)
            · have hM := on_neg c_10 hM
              obtain ⟨v7_11, ev7_11⟩ : ∃ z : Int32, z = v7 + 1 := ⟨_, rfl⟩
              have hM := on_letE ev7_11 hM
              refine lv_iinc (v := v7_11) (lv' := [(7, .int v7_11), (8, .int (0 : Int32)), (0, .ref h_p0), (1, .ref h_p1), (2, .int v2), (3, .int v3), (4, .int v4), (5, .int v5), (6, .int v6)]) hx hb dX2_leastNumber_131 hl (k := 8) rfl (by rw [ev7_11]; rfl) (by decide) rfl (fun ls hl => ?_)
              refine lv_goto (tgt := 42) hx hb dX2_leastNumber_134 (by decide) ?_
              have hk := on_nxL hM hk
              exact ih v5 v6 v7_11 p1 _ hk K1 _ _ hP hD hS ls (lv_sub hl [2, 3, 4, 5, 6, 7, 8, 0] rfl)
            · have hM := on_pos c_10 hM
              refine lv_aload_n hx hb dX2_leastNumber_85 rfl (lv_at hl 1 rfl) ?_
              refine lv_iload hx hb dX2_leastNumber_86 (lv_at hl 8 rfl) ?_
              refine lv_iload hx hb dX2_leastNumber_88 (lv_at hl 7 rfl) ?_
              obtain ⟨q_12, hq_12, hM⟩ := on_bind hM
              refine on_callS (rest := []) (As := [.ref h_p0, .int v7, .int v6]) (st1 := [.int q_12]) (wc := [(h_p0, .inr (0, [.int p0_many, .ref h_p0_rows])), (h_p0_rows, .inl (cI, 7, .inl p0_rows))]) (wr := [(h_p1, .inl (cI, 7, .inl p1))]) (wc' := [(h_p0, .inr (0, [.int p0_many, .ref h_p0_rows])), (h_p0_rows, .inl (cI, 7, .inl p0_rows))]) (wf := [(h_p0, .inr (0, [.int p0_many, .ref h_p0_rows])), (h_p0_rows, .inl (cI, 7, .inl p0_rows)), (h_p1, .inl (cI, 7, .inl p1))]) (rt := (some (.int q_12))) ⟨hx, hb, hml, hown, hts⟩ (k_X2_hasTwin h_p0 h_p0_rows p0_many p0_rows v7 v6 q_12 hq_12) (va_cwS 3 hts gX2_leastNumber_X2_hasTwin rfl rfl rfl hdX2_hasTwin ⟨(on_le1 (Nat.le_of_ble_eq_true rfl)), (on_le1 (Nat.le_of_ble_eq_true rfl))⟩) hK hN hP hD hS hA [0, 1] [2] [1, 2, 0] rfl rfl rfl rfl (by decide) rfl rfl rfl hl.1 rfl (Nat.le_of_ble_eq_true rfl) rfl dX2_leastNumber_90 ⟨Nat.zero_le _, Nat.zero_le _⟩ (fun H locs hP hD hS => ?_)
              refine lv_if_ne (tgt := 131) hx hb dX2_leastNumber_93 (by decide) (fun c_13 => ?_) (fun c_13 => ?_)
              · have hM := on_neg c_13 hM
                obtain ⟨v7_14, ev7_14⟩ : ∃ z : Int32, z = v7 + 1 := ⟨_, rfl⟩
                have hM := on_letE ev7_14 hM
                refine lv_iinc (v := v7_14) (lv' := [(7, .int v7_14), (8, .int (0 : Int32)), (0, .ref h_p0), (1, .ref h_p1), (2, .int v2), (3, .int v3), (4, .int v4), (5, .int v5), (6, .int v6)]) hx hb dX2_leastNumber_131 hl (k := 8) rfl (by rw [ev7_14]; rfl) (by decide) rfl (fun ls hl => ?_)
                refine lv_goto (tgt := 42) hx hb dX2_leastNumber_134 (by decide) ?_
                have hk := on_nxL hM hk
                exact ih v5 v6 v7_14 p1 _ hk K1 _ _ hP hD hS ls (lv_sub hl [2, 3, 4, 5, 6, 7, 8, 0] rfl)
              · have hM := on_pos c_13 hM
                refine lv_iload hx hb dX2_leastNumber_96 (lv_at hl 7 rfl) ?_
                refine lv_iconst (v := 1) hx hb dX2_leastNumber_98 (by decide) ?_
                refine lv_iload hx hb dX2_leastNumber_99 (lv_at hl 8 rfl) ?_
                refine lv_ishl hx hb dX2_leastNumber_101 ?_
                refine lv_ior hx hb dX2_leastNumber_102 ?_
                refine lv_topi (fun v6_15 ev6_15 => ?_)
                have hM := on_letE ev6_15 hM
                refine lv_istore (lv' := [(6, .int v6_15), (8, .int (0 : Int32)), (0, .ref h_p0), (1, .ref h_p1), (2, .int v2), (3, .int v3), (4, .int v4), (5, .int v5), (7, .int v7)]) hx hb dX2_leastNumber_103 hl (by decide) rfl (fun ls hl => ?_)
                refine lv_aload_n hx hb dX2_leastNumber_105 rfl (lv_at hl 3 rfl) ?_
                refine lv_iload_n hx hb dX2_leastNumber_106 rfl (lv_at hl 4 rfl) ?_
                refine lv_iload hx hb dX2_leastNumber_107 (lv_at hl 8 rfl) ?_
                obtain ⟨g_16, hM⟩ := on_gdE hM
                refine va_iast hx hb hK hP hD hS 2 0 rfl rfl (on_ixE g_16) dX2_leastNumber_109 (fun H locs hP hD hS => ?_)
                have hP : va_P D vwCl [(h_p0, .inr (0, [.int p0_many, .ref h_p0_rows])), (h_p0_rows, .inl (cI, 7, .inl p0_rows)), (h_p1, .inl (cI, 7, .inl (upd p1 (Int32.toNatClampNeg v2) v7)))] H := hP
                have hD : va_D A [(h_p0, .inr (0, [.int p0_many, .ref h_p0_rows])), (h_p0_rows, .inl (cI, 7, .inl p0_rows)), (h_p1, .inl (cI, 7, .inl (upd p1 (Int32.toNatClampNeg v2) v7)))] := hD
                refine lv_iload hx hb dX2_leastNumber_110 (lv_at hl 7 rfl) ?_
                refine lv_aload_n hx hb dX2_leastNumber_112 rfl (lv_at hl 2 rfl) ?_
                refine lv_aload_n hx hb dX2_leastNumber_113 rfl (lv_at hl 3 rfl) ?_
                refine lv_iload_n hx hb dX2_leastNumber_114 rfl (lv_at hl 4 rfl) ?_
                refine lv_iconst (v := 1) hx hb dX2_leastNumber_115 (by decide) ?_
                refine lv_iadd hx hb dX2_leastNumber_116 ?_
                refine lv_iload_n hx hb dX2_leastNumber_117 rfl (lv_at hl 5 rfl) ?_
                refine lv_iconst (v := 1) hx hb dX2_leastNumber_118 (by decide) ?_
                refine lv_iload hx hb dX2_leastNumber_119 (lv_at hl 8 rfl) ?_
                refine lv_ishl hx hb dX2_leastNumber_121 ?_
                refine lv_ior hx hb dX2_leastNumber_122 ?_
                obtain ⟨q_17, hq_17, hM⟩ := on_bind hM
                refine on_callS (rest := [.int v5]) (As := [.ref h_p0, .ref h_p1, .int (v2 + (1 : Int32)), .int (v3 ||| ((1 : Int32) <<< (v7 &&& 31)))]) (st1 := [.int q_17.1, .int v5]) (wc := [(h_p0, .inr (0, [.int p0_many, .ref h_p0_rows])), (h_p0_rows, .inl (cI, 7, .inl p0_rows)), (h_p1, .inl (cI, 7, .inl (upd p1 (Int32.toNatClampNeg v2) v7)))]) (wr := []) (wc' := [(h_p0, .inr (0, [.int p0_many, .ref h_p0_rows])), (h_p0_rows, .inl (cI, 7, .inl p0_rows)), (h_p1, .inl (cI, 7, .inl q_17.2))]) (wf := [(h_p0, .inr (0, [.int p0_many, .ref h_p0_rows])), (h_p0_rows, .inl (cI, 7, .inl p0_rows)), (h_p1, .inl (cI, 7, .inl q_17.2))]) (rt := (some (.int q_17.1))) ⟨hx, hb, hml, hown, hts⟩ (ihd h_p0 h_p0_rows h_p1 p0_many p0_rows (upd p1 (Int32.toNatClampNeg v2) v7) (v2 + (1 : Int32)) (v3 ||| ((1 : Int32) <<< (v7 &&& 31))) q_17 hq_17) (va_cwS 4 hts gX2_leastNumber_X2_leastNumber rfl rfl rfl hdX2_leastNumber ⟨Nat.le_refl _, rrl_X2_leastNumber d⟩) hK hN hP hD hS hA [0, 1, 2] [] [0, 1, 2] rfl rfl rfl rfl (by decide) rfl rfl rfl hl.1 rfl (Nat.le_of_ble_eq_true rfl) rfl dX2_leastNumber_123 ⟨Nat.zero_le _, Nat.zero_le _⟩ (fun H locs hP hD hS => ?_)
                refine va_mmin (rest := []) hx hb (hml.trans hl.1.symm) hown w4 w5 w6 w7 (on_le1 (Nat.le_of_ble_eq_true rfl)) (on_le1 (Nat.le_of_ble_eq_true rfl)) (Nat.le_refl _) (Nat.le_refl _) dX2_leastNumber_126 ?_
                refine lv_topi (fun v5_18 ev5_18 => ?_)
                have hM := on_letE ev5_18 hM
                refine lv_istore (lv' := [(5, .int v5_18), (6, .int v6_15), (8, .int (0 : Int32)), (0, .ref h_p0), (1, .ref h_p1), (2, .int v2), (3, .int v3), (4, .int v4), (7, .int v7)]) hx hb dX2_leastNumber_129 hl (by decide) rfl (fun ls hl => ?_)
                obtain ⟨v7_19, ev7_19⟩ : ∃ z : Int32, z = v7 + 1 := ⟨_, rfl⟩
                have hM := on_letE ev7_19 hM
                refine lv_iinc (v := v7_19) (lv' := [(7, .int v7_19), (5, .int v5_18), (6, .int v6_15), (8, .int (0 : Int32)), (0, .ref h_p0), (1, .ref h_p1), (2, .int v2), (3, .int v3), (4, .int v4)]) hx hb dX2_leastNumber_131 hl (k := 8) rfl (by rw [ev7_19]; rfl) (by decide) rfl (fun ls hl => ?_)
                refine lv_goto (tgt := 42) hx hb dX2_leastNumber_134 (by decide) ?_
                have hk := on_nxL hM hk
                exact ih v5_18 v6_15 v7_19 q_17.2 _ hk K1 _ _ hP hD hS ls (lv_sub hl [4, 5, 6, 7, 8, 1, 2, 0] rfl)
        · have hM := on_pos c_6 hM
          refine lv_iconst (v := 1) hx hb dX2_leastNumber_60 (by decide) ?_
          refine lv_goto (tgt := 65) hx hb dX2_leastNumber_61 (by decide) ?_
          refine lv_istore (lv' := [(8, .int (1 : Int32)), (0, .ref h_p0), (1, .ref h_p1), (2, .int v2), (3, .int v3), (4, .int v4), (5, .int v5), (6, .int v6), (7, .int v7)]) hx hb dX2_leastNumber_65 hl (by decide) rfl (fun ls hl => ?_)
          refine lv_iload hx hb dX2_leastNumber_67 (lv_at hl 0 rfl) ?_
          refine lv_if_eq (tgt := 131) hx hb dX2_leastNumber_69 (by decide) (fun c_20 => ?_) (fun c_20 => ?_)
          · have hM := on_pos c_20 hM
            obtain ⟨v7_21, ev7_21⟩ : ∃ z : Int32, z = v7 + 1 := ⟨_, rfl⟩
            have hM := on_letE ev7_21 hM
            refine lv_iinc (v := v7_21) (lv' := [(7, .int v7_21), (8, .int (1 : Int32)), (0, .ref h_p0), (1, .ref h_p1), (2, .int v2), (3, .int v3), (4, .int v4), (5, .int v5), (6, .int v6)]) hx hb dX2_leastNumber_131 hl (k := 8) rfl (by rw [ev7_21]; rfl) (by decide) rfl (fun ls hl => ?_)
            refine lv_goto (tgt := 42) hx hb dX2_leastNumber_134 (by decide) ?_
            have hk := on_nxL hM hk
            exact ih v5 v6 v7_21 p1 _ hk K1 _ _ hP hD hS ls (lv_sub hl [2, 3, 4, 5, 6, 7, 8, 0] rfl)
          · have hM := on_neg c_20 hM
            refine lv_aload_n hx hb dX2_leastNumber_72 rfl (lv_at hl 1 rfl) ?_
            refine lv_aload_n hx hb dX2_leastNumber_73 rfl (lv_at hl 2 rfl) ?_
            refine lv_iload_n hx hb dX2_leastNumber_74 rfl (lv_at hl 3 rfl) ?_
            refine lv_iload hx hb dX2_leastNumber_75 (lv_at hl 8 rfl) ?_
            obtain ⟨q_22, hq_22, hM⟩ := on_bind hM
            refine on_callS (rest := []) (As := [.ref h_p0, .ref h_p1, .int v2, .int v7]) (st1 := [.int q_22]) (wc := [(h_p0, .inr (0, [.int p0_many, .ref h_p0_rows])), (h_p0_rows, .inl (cI, 7, .inl p0_rows)), (h_p1, .inl (cI, 7, .inl p1))]) (wr := []) (wc' := [(h_p0, .inr (0, [.int p0_many, .ref h_p0_rows])), (h_p0_rows, .inl (cI, 7, .inl p0_rows)), (h_p1, .inl (cI, 7, .inl p1))]) (wf := [(h_p0, .inr (0, [.int p0_many, .ref h_p0_rows])), (h_p0_rows, .inl (cI, 7, .inl p0_rows)), (h_p1, .inl (cI, 7, .inl p1))]) (rt := (some (.int q_22))) ⟨hx, hb, hml, hown, hts⟩ (k_X2_column h_p0 h_p0_rows h_p1 p0_many p0_rows p1 v2 v7 q_22 hq_22) (va_cwS 4 hts gX2_leastNumber_X2_column rfl rfl rfl hdX2_column ⟨(on_le1 (Nat.le_of_ble_eq_true rfl)), (on_le1 (Nat.le_of_ble_eq_true rfl))⟩) hK hN hP hD hS hA [0, 1, 2] [] [0, 1, 2] rfl rfl rfl rfl (by decide) rfl rfl rfl hl.1 rfl (Nat.le_of_ble_eq_true rfl) rfl dX2_leastNumber_77 ⟨Nat.zero_le _, Nat.zero_le _⟩ (fun H locs hP hD hS => ?_)
            refine lv_iload hx hb dX2_leastNumber_80 (lv_at hl 5 rfl) ?_
            refine lv_icmp_ne (tgt := 131) hx hb dX2_leastNumber_82 (by decide) (fun c_23 => ?_) (fun c_23 => ?_)
            · have hM := on_neg c_23 hM
              obtain ⟨v7_24, ev7_24⟩ : ∃ z : Int32, z = v7 + 1 := ⟨_, rfl⟩
              have hM := on_letE ev7_24 hM
              refine lv_iinc (v := v7_24) (lv' := [(7, .int v7_24), (8, .int (1 : Int32)), (0, .ref h_p0), (1, .ref h_p1), (2, .int v2), (3, .int v3), (4, .int v4), (5, .int v5), (6, .int v6)]) hx hb dX2_leastNumber_131 hl (k := 8) rfl (by rw [ev7_24]; rfl) (by decide) rfl (fun ls hl => ?_)
              refine lv_goto (tgt := 42) hx hb dX2_leastNumber_134 (by decide) ?_
              have hk := on_nxL hM hk
              exact ih v5 v6 v7_24 p1 _ hk K1 _ _ hP hD hS ls (lv_sub hl [2, 3, 4, 5, 6, 7, 8, 0] rfl)
            · have hM := on_pos c_23 hM
              refine lv_aload_n hx hb dX2_leastNumber_85 rfl (lv_at hl 1 rfl) ?_
              refine lv_iload hx hb dX2_leastNumber_86 (lv_at hl 8 rfl) ?_
              refine lv_iload hx hb dX2_leastNumber_88 (lv_at hl 7 rfl) ?_
              obtain ⟨q_25, hq_25, hM⟩ := on_bind hM
              refine on_callS (rest := []) (As := [.ref h_p0, .int v7, .int v6]) (st1 := [.int q_25]) (wc := [(h_p0, .inr (0, [.int p0_many, .ref h_p0_rows])), (h_p0_rows, .inl (cI, 7, .inl p0_rows))]) (wr := [(h_p1, .inl (cI, 7, .inl p1))]) (wc' := [(h_p0, .inr (0, [.int p0_many, .ref h_p0_rows])), (h_p0_rows, .inl (cI, 7, .inl p0_rows))]) (wf := [(h_p0, .inr (0, [.int p0_many, .ref h_p0_rows])), (h_p0_rows, .inl (cI, 7, .inl p0_rows)), (h_p1, .inl (cI, 7, .inl p1))]) (rt := (some (.int q_25))) ⟨hx, hb, hml, hown, hts⟩ (k_X2_hasTwin h_p0 h_p0_rows p0_many p0_rows v7 v6 q_25 hq_25) (va_cwS 3 hts gX2_leastNumber_X2_hasTwin rfl rfl rfl hdX2_hasTwin ⟨(on_le1 (Nat.le_of_ble_eq_true rfl)), (on_le1 (Nat.le_of_ble_eq_true rfl))⟩) hK hN hP hD hS hA [0, 1] [2] [1, 2, 0] rfl rfl rfl rfl (by decide) rfl rfl rfl hl.1 rfl (Nat.le_of_ble_eq_true rfl) rfl dX2_leastNumber_90 ⟨Nat.zero_le _, Nat.zero_le _⟩ (fun H locs hP hD hS => ?_)
              refine lv_if_ne (tgt := 131) hx hb dX2_leastNumber_93 (by decide) (fun c_26 => ?_) (fun c_26 => ?_)
              · have hM := on_neg c_26 hM
                obtain ⟨v7_27, ev7_27⟩ : ∃ z : Int32, z = v7 + 1 := ⟨_, rfl⟩
                have hM := on_letE ev7_27 hM
                refine lv_iinc (v := v7_27) (lv' := [(7, .int v7_27), (8, .int (1 : Int32)), (0, .ref h_p0), (1, .ref h_p1), (2, .int v2), (3, .int v3), (4, .int v4), (5, .int v5), (6, .int v6)]) hx hb dX2_leastNumber_131 hl (k := 8) rfl (by rw [ev7_27]; rfl) (by decide) rfl (fun ls hl => ?_)
                refine lv_goto (tgt := 42) hx hb dX2_leastNumber_134 (by decide) ?_
                have hk := on_nxL hM hk
                exact ih v5 v6 v7_27 p1 _ hk K1 _ _ hP hD hS ls (lv_sub hl [2, 3, 4, 5, 6, 7, 8, 0] rfl)
              · have hM := on_pos c_26 hM
                refine lv_iload hx hb dX2_leastNumber_96 (lv_at hl 7 rfl) ?_
                refine lv_iconst (v := 1) hx hb dX2_leastNumber_98 (by decide) ?_
                refine lv_iload hx hb dX2_leastNumber_99 (lv_at hl 8 rfl) ?_
                refine lv_ishl hx hb dX2_leastNumber_101 ?_
                refine lv_ior hx hb dX2_leastNumber_102 ?_
                refine lv_topi (fun v6_28 ev6_28 => ?_)
                have hM := on_letE ev6_28 hM
                refine lv_istore (lv' := [(6, .int v6_28), (8, .int (1 : Int32)), (0, .ref h_p0), (1, .ref h_p1), (2, .int v2), (3, .int v3), (4, .int v4), (5, .int v5), (7, .int v7)]) hx hb dX2_leastNumber_103 hl (by decide) rfl (fun ls hl => ?_)
                refine lv_aload_n hx hb dX2_leastNumber_105 rfl (lv_at hl 3 rfl) ?_
                refine lv_iload_n hx hb dX2_leastNumber_106 rfl (lv_at hl 4 rfl) ?_
                refine lv_iload hx hb dX2_leastNumber_107 (lv_at hl 8 rfl) ?_
                obtain ⟨g_29, hM⟩ := on_gdE hM
                refine va_iast hx hb hK hP hD hS 2 0 rfl rfl (on_ixE g_29) dX2_leastNumber_109 (fun H locs hP hD hS => ?_)
                have hP : va_P D vwCl [(h_p0, .inr (0, [.int p0_many, .ref h_p0_rows])), (h_p0_rows, .inl (cI, 7, .inl p0_rows)), (h_p1, .inl (cI, 7, .inl (upd p1 (Int32.toNatClampNeg v2) v7)))] H := hP
                have hD : va_D A [(h_p0, .inr (0, [.int p0_many, .ref h_p0_rows])), (h_p0_rows, .inl (cI, 7, .inl p0_rows)), (h_p1, .inl (cI, 7, .inl (upd p1 (Int32.toNatClampNeg v2) v7)))] := hD
                refine lv_iload hx hb dX2_leastNumber_110 (lv_at hl 7 rfl) ?_
                refine lv_aload_n hx hb dX2_leastNumber_112 rfl (lv_at hl 2 rfl) ?_
                refine lv_aload_n hx hb dX2_leastNumber_113 rfl (lv_at hl 3 rfl) ?_
                refine lv_iload_n hx hb dX2_leastNumber_114 rfl (lv_at hl 4 rfl) ?_
                refine lv_iconst (v := 1) hx hb dX2_leastNumber_115 (by decide) ?_
                refine lv_iadd hx hb dX2_leastNumber_116 ?_
                refine lv_iload_n hx hb dX2_leastNumber_117 rfl (lv_at hl 5 rfl) ?_
                refine lv_iconst (v := 1) hx hb dX2_leastNumber_118 (by decide) ?_
                refine lv_iload hx hb dX2_leastNumber_119 (lv_at hl 8 rfl) ?_
                refine lv_ishl hx hb dX2_leastNumber_121 ?_
                refine lv_ior hx hb dX2_leastNumber_122 ?_
                obtain ⟨q_30, hq_30, hM⟩ := on_bind hM
                refine on_callS (rest := [.int v5]) (As := [.ref h_p0, .ref h_p1, .int (v2 + (1 : Int32)), .int (v3 ||| ((1 : Int32) <<< (v7 &&& 31)))]) (st1 := [.int q_30.1, .int v5]) (wc := [(h_p0, .inr (0, [.int p0_many, .ref h_p0_rows])), (h_p0_rows, .inl (cI, 7, .inl p0_rows)), (h_p1, .inl (cI, 7, .inl (upd p1 (Int32.toNatClampNeg v2) v7)))]) (wr := []) (wc' := [(h_p0, .inr (0, [.int p0_many, .ref h_p0_rows])), (h_p0_rows, .inl (cI, 7, .inl p0_rows)), (h_p1, .inl (cI, 7, .inl q_30.2))]) (wf := [(h_p0, .inr (0, [.int p0_many, .ref h_p0_rows])), (h_p0_rows, .inl (cI, 7, .inl p0_rows)), (h_p1, .inl (cI, 7, .inl q_30.2))]) (rt := (some (.int q_30.1))) ⟨hx, hb, hml, hown, hts⟩ (ihd h_p0 h_p0_rows h_p1 p0_many p0_rows (upd p1 (Int32.toNatClampNeg v2) v7) (v2 + (1 : Int32)) (v3 ||| ((1 : Int32) <<< (v7 &&& 31))) q_30 hq_30) (va_cwS 4 hts gX2_leastNumber_X2_leastNumber rfl rfl rfl hdX2_leastNumber ⟨Nat.le_refl _, rrl_X2_leastNumber d⟩) hK hN hP hD hS hA [0, 1, 2] [] [0, 1, 2] rfl rfl rfl rfl (by decide) rfl rfl rfl hl.1 rfl (Nat.le_of_ble_eq_true rfl) rfl dX2_leastNumber_123 ⟨Nat.zero_le _, Nat.zero_le _⟩ (fun H locs hP hD hS => ?_)
                refine va_mmin (rest := []) hx hb (hml.trans hl.1.symm) hown w4 w5 w6 w7 (on_le1 (Nat.le_of_ble_eq_true rfl)) (on_le1 (Nat.le_of_ble_eq_true rfl)) (Nat.le_refl _) (Nat.le_refl _) dX2_leastNumber_126 ?_
                refine lv_topi (fun v5_31 ev5_31 => ?_)
                have hM := on_letE ev5_31 hM
                refine lv_istore (lv' := [(5, .int v5_31), (6, .int v6_28), (8, .int (1 : Int32)), (0, .ref h_p0), (1, .ref h_p1), (2, .int v2), (3, .int v3), (4, .int v4), (7, .int v7)]) hx hb dX2_leastNumber_129 hl (by decide) rfl (fun ls hl => ?_)
                obtain ⟨v7_32, ev7_32⟩ : ∃ z : Int32, z = v7 + 1 := ⟨_, rfl⟩
                have hM := on_letE ev7_32 hM
                refine lv_iinc (v := v7_32) (lv' := [(7, .int v7_32), (5, .int v5_31), (6, .int v6_28), (8, .int (1 : Int32)), (0, .ref h_p0), (1, .ref h_p1), (2, .int v2), (3, .int v3), (4, .int v4)]) hx hb dX2_leastNumber_131 hl (k := 8) rfl (by rw [ev7_32]; rfl) (by decide) rfl (fun ls hl => ?_)
                refine lv_goto (tgt := 42) hx hb dX2_leastNumber_134 (by decide) ?_
                have hk := on_nxL hM hk
                exact ih v5_31 v6_28 v7_32 q_30.2 _ hk K1 _ _ hP hD hS ls (lv_sub hl [4, 5, 6, 7, 8, 1, 2, 0] rfl)
  refine lv_iload_n hx hb dX2_leastNumber_0 rfl (lv_at hl 2 rfl) ?_
  refine lv_aload_n hx hb dX2_leastNumber_1 rfl (lv_at hl 0 rfl) ?_
  refine va_getN (D := D) (ci := 0) (v := .int p0_many) (C := RX0) (T := TX0) (N := 2) hx hb hts w1 hown hK hP 0 rfl rfl 0 (by decide) (va_Nw.use rfl (hN _ (List.mem_of_getElem? (i := 3) rfl))) (fun _ h9 => h9) rfl dX2_leastNumber_2 ?_
  refine lv_icmp_lt (tgt := 14) hx hb dX2_leastNumber_5 (by decide) (fun c_1 => ?_) (fun c_1 => ?_)
  · have hM := on_pos c_1 hM
    refine lv_aload_n hx hb dX2_leastNumber_14 rfl (lv_at hl 0 rfl) ?_
    refine lv_aload_n hx hb dX2_leastNumber_15 rfl (lv_at hl 1 rfl) ?_
    refine lv_iload_n hx hb dX2_leastNumber_16 rfl (lv_at hl 2 rfl) ?_
    refine lv_iload_n hx hb dX2_leastNumber_17 rfl (lv_at hl 3 rfl) ?_
    obtain ⟨q_2, hq_2, hM⟩ := on_bind hM
    refine on_callS (rest := []) (As := [.ref h_p0, .ref h_p1, .int v2, .int v3]) (st1 := [.int q_2]) (wc := [(h_p0, .inr (0, [.int p0_many, .ref h_p0_rows])), (h_p0_rows, .inl (cI, 7, .inl p0_rows)), (h_p1, .inl (cI, 7, .inl p1))]) (wr := []) (wc' := [(h_p0, .inr (0, [.int p0_many, .ref h_p0_rows])), (h_p0_rows, .inl (cI, 7, .inl p0_rows)), (h_p1, .inl (cI, 7, .inl p1))]) (wf := [(h_p0, .inr (0, [.int p0_many, .ref h_p0_rows])), (h_p0_rows, .inl (cI, 7, .inl p0_rows)), (h_p1, .inl (cI, 7, .inl p1))]) (rt := (some (.int q_2))) ⟨hx, hb, hml, hown, hts⟩ (k_X2_lowestColumn h_p0 h_p0_rows h_p1 p0_many p0_rows p1 v2 v3 q_2 hq_2) (va_cwS 4 hts gX2_leastNumber_X2_lowestColumn rfl rfl rfl hdX2_lowestColumn ⟨(on_le1 (Nat.le_of_ble_eq_true rfl)), (on_le1 (Nat.le_of_ble_eq_true rfl))⟩) hK hN hP hD hS hA [0, 1, 2] [] [0, 1, 2] rfl rfl rfl rfl (by decide) rfl rfl rfl hl.1 rfl (Nat.le_of_ble_eq_true rfl) rfl dX2_leastNumber_18 ⟨Nat.zero_le _, Nat.zero_le _⟩ (fun H locs hP hD hS => ?_)
    refine lv_istore (lv' := [(4, .int q_2), (0, .ref h_p0), (1, .ref h_p1), (2, .int v2), (3, .int v3)]) hx hb dX2_leastNumber_21 hl (by decide) rfl (fun ls hl => ?_)
    refine lv_iconst (v := 1) hx hb dX2_leastNumber_23 (by decide) ?_
    refine lv_aload_n hx hb dX2_leastNumber_24 rfl (lv_at hl 1 rfl) ?_
    refine va_getN (D := D) (ci := 0) (v := .int p0_many) (C := RX0) (T := TX0) (N := 2) hx hb hts w1 hown hK hP 0 rfl rfl 0 (by decide) (va_Nw.use rfl (hN _ (List.mem_of_getElem? (i := 3) rfl))) (fun _ h9 => h9) rfl dX2_leastNumber_25 ?_
    obtain ⟨q_3, hq_3, hM⟩ := on_bind hM
    refine on_callSN0 (rest := [.int (1 : Int32)]) (As := [.int p0_many]) (st1 := [.int q_3, .int (1 : Int32)]) ⟨hx, hb, hml, hown, hts⟩ (k_X5_pairsOf p0_many q_3 hq_3) ⟨va_cnB 1 hts gX2_leastNumber_X5_pairsOf_n21 rfl rfl rfl (hN _ (List.mem_of_getElem? (i := 44) rfl)) w2 hdX5_pairsOf ⟨(on_le1 (Nat.le_of_ble_eq_true rfl)), (on_le1 (Nat.le_of_ble_eq_true rfl))⟩, w3, trivial⟩ hK hN hP hD hS hA rfl hl.1 rfl (Nat.le_of_ble_eq_true rfl) rfl dX2_leastNumber_28 ⟨Nat.zero_le _, Nat.zero_le _⟩ (fun H locs hP hS => ?_)
    refine lv_ishl hx hb dX2_leastNumber_31 ?_
    refine lv_iconst (v := 1) hx hb dX2_leastNumber_32 (by decide) ?_
    refine lv_isub hx hb dX2_leastNumber_33 ?_
    refine lv_topi (fun v5_4 ev5_4 => ?_)
    have hM := on_letE ev5_4 hM
    refine lv_istore (lv' := [(5, .int v5_4), (4, .int q_2), (0, .ref h_p0), (1, .ref h_p1), (2, .int v2), (3, .int v3)]) hx hb dX2_leastNumber_34 hl (by decide) rfl (fun ls hl => ?_)
    refine lv_iconst (v := 0) hx hb dX2_leastNumber_36 (by decide) ?_
    refine lv_istore (lv' := [(6, .int (0 : Int32)), (5, .int v5_4), (4, .int q_2), (0, .ref h_p0), (1, .ref h_p1), (2, .int v2), (3, .int v3)]) hx hb dX2_leastNumber_37 hl (by decide) rfl (fun ls hl => ?_)
    refine lv_iconst (v := 0) hx hb dX2_leastNumber_39 (by decide) ?_
    refine lv_istore (lv' := [(7, .int (0 : Int32)), (6, .int (0 : Int32)), (5, .int v5_4), (4, .int q_2), (0, .ref h_p0), (1, .ref h_p1), (2, .int v2), (3, .int v3)]) hx hb dX2_leastNumber_40 hl (by decide) rfl (fun ls hl => ?_)
    obtain ⟨q_33, hq_33, hM⟩ := on_bind hM
    refine lp_42 v2 v3 q_2 on_F v5_4 (0 : Int32) (0 : Int32) p1 q_33 hq_33 (fun H locs hP hD hS ls hl => ?_) H locs hP hD hS ls (lv_sub hl [4, 5, 6, 7, 3, 2, 1, 0] rfl)
    refine lv_iload hx hb dX2_leastNumber_137 (lv_at hl 0 rfl) ?_
    have hM := Option.some.inj hM
    subst hM
    rw [← hQ]
    exact on_iret hx hb hr hlk hP hD hS dX2_leastNumber_139
  · have hM := on_neg c_1 hM
    refine lv_aload_n hx hb dX2_leastNumber_8 rfl (lv_at hl 0 rfl) ?_
    refine lv_aload_n hx hb dX2_leastNumber_9 rfl (lv_at hl 1 rfl) ?_
    obtain ⟨q_34, hq_34, hM⟩ := on_bind hM
    refine on_callS (rest := []) (As := [.ref h_p0, .ref h_p1]) (st1 := [.int q_34]) (wc := [(h_p0, .inr (0, [.int p0_many, .ref h_p0_rows])), (h_p0_rows, .inl (cI, 7, .inl p0_rows)), (h_p1, .inl (cI, 7, .inl p1))]) (wr := []) (wc' := [(h_p0, .inr (0, [.int p0_many, .ref h_p0_rows])), (h_p0_rows, .inl (cI, 7, .inl p0_rows)), (h_p1, .inl (cI, 7, .inl p1))]) (wf := [(h_p0, .inr (0, [.int p0_many, .ref h_p0_rows])), (h_p0_rows, .inl (cI, 7, .inl p0_rows)), (h_p1, .inl (cI, 7, .inl p1))]) (rt := (some (.int q_34))) ⟨hx, hb, hml, hown, hts⟩ (k_X2_numberAsGiven h_p0 h_p0_rows h_p1 p0_many p0_rows p1 q_34 hq_34) (va_cwS 2 hts gX2_leastNumber_X2_numberAsGiven rfl rfl rfl hdX2_numberAsGiven ⟨(on_le1 (Nat.le_of_ble_eq_true rfl)), (on_le1 (Nat.le_of_ble_eq_true rfl))⟩) hK hN hP hD hS hA [0, 1, 2] [] [0, 1, 2] rfl rfl rfl rfl (by decide) rfl rfl rfl hl.1 rfl (Nat.le_of_ble_eq_true rfl) rfl dX2_leastNumber_10 ⟨Nat.zero_le _, Nat.zero_le _⟩ (fun H locs hP hD hS => ?_)
    have hM := Option.some.inj hM
    subst hM
    rw [← hQ]
    exact on_iret hx hb hr hlk hP hD hS dX2_leastNumber_13
abbrev rm_X2_kindOfClass : Room := { frames := 12, cells := 0, slots := 0, locals := 330 }
set_option maxHeartbeats 4000000 in
set_option maxRecDepth 100000 in
theorem k_X2_kindOfClass {l : Launch} {D : va_G} {cI cJ cZ cS cA : ClassId} (h_t : Nat) (h_t_at : Nat) (h_p0 : Nat) (h_p0_rows : Nat) (t_at : Nat → Int32) (p0_many : Int32) (p0_rows : Nat → Int32)  (out : Int32 × (Nat → Int32) × (Nat → Int32)) (hM : M_X2_kindOfClass t_at p0_many p0_rows = some out) : on_Con l yX2_kindOfClass wsX2_kindOfClass rm_X2_kindOfClass [.ref h_t, .ref h_p0] D (on_T cI cJ cZ cS cA) [(h_t, .inr (2, [.ref h_t_at])), (h_t_at, .inl (cI, 7, .inl t_at)), (h_p0, .inr (0, [.int p0_many, .ref h_p0_rows])), (h_p0_rows, .inl (cI, 7, .inl p0_rows))] (some (.int out.1)) [(h_t, .inr (2, [.ref h_t_at])), (h_t_at, .inl (cI, 7, .inl out.2.1)), (h_p0, .inr (0, [.int p0_many, .ref h_p0_rows])), (h_p0_rows, .inl (cI, 7, .inl out.2.2))] := by
  unfold M_X2_kindOfClass at hM
  refine on_enter (cc := cX2_kindOfClass) (nL := 4) (rt := (some .int)) (own := RX2) (by decide +kernel) rfl rfl (Nat.le_of_ble_eq_true rfl) ?_
  intro p e s m below meth c A ls hx hb hml hr hlk hts hown hA hK hN H locs hP hD hS hl
  have hl : lv_has ls 4 [(0, .ref h_t), (1, .ref h_p0)] := hl
  generalize hQ : MQ below (on_Q D (some (.int out.1)) [(h_t, .inr (2, [.ref h_t_at])), (h_t_at, .inl (cI, 7, .inl out.2.1)), (h_p0, .inr (0, [.int p0_many, .ref h_p0_rows])), (h_p0_rows, .inl (cI, 7, .inl out.2.2))] A) _ s 0 0 A = Q
  generalize hAr : List.toArray ([.ref h_t, .ref h_p0] : List Value) = args at hts hQ ⊢
  have w1 : ∀ w ∈ wsX00, w ∈ wsX2_kindOfClass := by decide +kernel
  have w2 := hts (.initialized RX5) (by decide +kernel)
  have w3 := hts (.static yX5_pairsOf) (by decide +kernel)
  have w4 := hts (.initialized RX0) (by decide +kernel)
  have w5 := hts (.instanceMethod yX0_leaveAlone) (by decide +kernel)
  have w6 := hts (.selects RX0 yX0_leaveAlone yX0_leaveAlone) (by decide +kernel)
  have w7 := hts (.fieldLink RX2 9 "OddNets$Renumbering" "at" "[I") (by decide +kernel)
  have w8 : ∀ w ∈ wsX20, w ∈ wsX2_kindOfClass := by decide +kernel
  have w9 := hts (.methodLink RX2 33 Lib.Math.min.name) (by decide +kernel)
  have w10 := hts (.static Lib.Math.min.name) (by decide +kernel)
  have w11 := hts (.initialized "java/lang/Math") (by decide +kernel)
  have w12 := hts (.code Lib.Math.min.name Lib.Math.min.code 2 (some .int)) (by decide +kernel)
  have lp_14 : ∀ (n : Nat) (v2 : Int32) (v3 : Int32) (t_at : Nat → Int32) (p0_rows : Nat → Int32) (x : Int32 × (Nat → Int32) × (Nat → Int32)), on_loop (fun (s : Int32 × Int32 × (Nat → Int32) × (Nat → Int32)) => B_X2_kindOfClass_14 p0_many s.1 s.2.1 s.2.2.1 s.2.2.2) n (v2, v3, t_at, p0_rows) = some x → (∀ (H : Heap) (locs : List Loc), va_P D vwCl [(h_t, .inr (2, [.ref h_t_at])), (h_t_at, .inl (cI, 7, .inl x.2.1)), (h_p0, .inr (0, [.int p0_many, .ref h_p0_rows])), (h_p0_rows, .inl (cI, 7, .inl x.2.2))] H → va_D A [(h_t, .inr (2, [.ref h_t_at])), (h_t_at, .inl (cI, 7, .inl x.2.1)), (h_p0, .inr (0, [.int p0_many, .ref h_p0_rows])), (h_p0_rows, .inl (cI, 7, .inl x.2.2))] → va_S A s.heap H locs → ∀ ls : Array Slot, lv_has ls 4 [(2, .int x.1)] → W p l e rm_X2_kindOfClass s m args below meth c H locs 0 0 Q (F0 m 57 ls [])) → ∀ (H : Heap) (locs : List Loc), va_P D vwCl [(h_t, .inr (2, [.ref h_t_at])), (h_t_at, .inl (cI, 7, .inl t_at)), (h_p0, .inr (0, [.int p0_many, .ref h_p0_rows])), (h_p0_rows, .inl (cI, 7, .inl p0_rows))] H → va_D A [(h_t, .inr (2, [.ref h_t_at])), (h_t_at, .inl (cI, 7, .inl t_at)), (h_p0, .inr (0, [.int p0_many, .ref h_p0_rows])), (h_p0_rows, .inl (cI, 7, .inl p0_rows))] → va_S A s.heap H locs → ∀ ls : Array Slot, lv_has ls 4 [(0, .ref h_t), (1, .ref h_p0), (2, .int v2), (3, .int v3)] → W p l e rm_X2_kindOfClass s m args below meth c H locs 0 0 Q (F0 m 14 ls []) := by
    intro n
    induction n with
    | zero =>
      intro v2 v3 t_at p0_rows x hL
      exact (on_loop0 hL).elim
    | succ n ih =>
      intro v2 v3 t_at p0_rows x hL K1 H locs hP hD hS ls hl
      obtain ⟨y, hM, hk⟩ := on_loopE hL
      have hM : B_X2_kindOfClass_14 p0_many v2 v3 t_at p0_rows = some y := hM
      unfold B_X2_kindOfClass_14 at hM
      refine lv_iload_n hx hb dX2_kindOfClass_14 rfl (lv_at hl 3 rfl) ?_
      refine lv_aload_n hx hb dX2_kindOfClass_15 rfl (lv_at hl 1 rfl) ?_
      refine va_getN (D := D) (ci := 0) (v := .int p0_many) (C := RX0) (T := TX0) (N := 2) hx hb hts w1 hown hK hP 2 rfl rfl 0 (by decide) (va_Nw.use rfl (hN _ (List.mem_of_getElem? (i := 3) rfl))) (fun _ h9 => h9) rfl dX2_kindOfClass_16 ?_
      refine lv_icmp_ge (tgt := 57) hx hb dX2_kindOfClass_19 (by decide) (fun c_3 => ?_) (fun c_3 => ?_)
      · have hM := on_pos c_3 hM
        have hk := on_nxR hM hk
        subst hk
        exact K1 _ _ hP hD hS ls (lv_sub hl [2] rfl)
      · have hM := on_neg c_3 hM
        refine lv_aload_n hx hb dX2_kindOfClass_22 rfl (lv_at hl 1 rfl) ?_
        refine lv_iload_n hx hb dX2_kindOfClass_23 rfl (lv_at hl 3 rfl) ?_
        obtain ⟨q_4, hq_4, hM⟩ := on_bind hM
        refine on_callVN (rest := []) (As := [.int v3]) (st1 := []) (C := RX0) (ci := 0) (q0 := 2) (wc := [(h_p0, .inr (0, [.int p0_many, .ref h_p0_rows])), (h_p0_rows, .inl (cI, 7, .inl p0_rows))]) (wr := [(h_t, .inr (2, [.ref h_t_at])), (h_t_at, .inl (cI, 7, .inl t_at))]) (wc' := [(h_p0, .inr (0, [.int p0_many, .ref h_p0_rows])), (h_p0_rows, .inl (cI, 7, .inl q_4))]) (wf := [(h_t, .inr (2, [.ref h_t_at])), (h_t_at, .inl (cI, 7, .inl t_at)), (h_p0, .inr (0, [.int p0_many, .ref h_p0_rows])), (h_p0_rows, .inl (cI, 7, .inl q_4))]) (rt := none) ⟨hx, hb, hml, hown, hts⟩ (k_X0_leaveAlone h_p0 h_p0_rows p0_many p0_rows v3 q_4 hq_4) ⟨va_cnB 1 hts gX2_kindOfClass_X0_leaveAlone_n25 rfl rfl rfl (hN _ (List.mem_of_getElem? (i := 45) rfl)) w4 hdX0_leaveAlone ⟨(Nat.le_of_ble_eq_true rfl), (Nat.le_of_ble_eq_true rfl)⟩, w5, w6⟩ hK hN hP hD hS hA [2, 3] [0, 1] [0, 1, 2, 3] rfl rfl rfl rfl (by decide) rfl rfl rfl rfl rfl rfl hl.1 rfl (Nat.le_of_ble_eq_true rfl) rfl dX2_kindOfClass_24 ⟨Nat.zero_le _, Nat.zero_le _⟩ (fun H locs hP hD hS => ?_)
        refine lv_aload_n hx hb dX2_kindOfClass_27 rfl (lv_at hl 0 rfl) ?_
        refine va_get (D := D) (ci := 2) (v := .ref h_t_at) (C := RX2) (T := TX2) (N := 1) hx hb hts w8 hown hK hP 0 rfl rfl 0 (by decide) w7 (fun _ h9 => h9) rfl dX2_kindOfClass_28 ?_
        refine lv_iconst (v := 0) hx hb dX2_kindOfClass_31 (by decide) ?_
        refine lv_iload_n hx hb dX2_kindOfClass_32 rfl (lv_at hl 3 rfl) ?_
        obtain ⟨g_5, hM⟩ := on_gdE hM
        refine va_iast hx hb hK hP hD hS 1 0 rfl rfl (on_ixE g_5) dX2_kindOfClass_33 (fun H locs hP hD hS => ?_)
        have hP : va_P D vwCl [(h_t, .inr (2, [.ref h_t_at])), (h_t_at, .inl (cI, 7, .inl (upd t_at (Int32.toNatClampNeg (0 : Int32)) v3))), (h_p0, .inr (0, [.int p0_many, .ref h_p0_rows])), (h_p0_rows, .inl (cI, 7, .inl q_4))] H := hP
        have hD : va_D A [(h_t, .inr (2, [.ref h_t_at])), (h_t_at, .inl (cI, 7, .inl (upd t_at (Int32.toNatClampNeg (0 : Int32)) v3))), (h_p0, .inr (0, [.int p0_many, .ref h_p0_rows])), (h_p0_rows, .inl (cI, 7, .inl q_4))] := hD
        refine lv_iload_n hx hb dX2_kindOfClass_34 rfl (lv_at hl 2 rfl) ?_
        refine lv_aload_n hx hb dX2_kindOfClass_35 rfl (lv_at hl 1 rfl) ?_
        refine lv_aload_n hx hb dX2_kindOfClass_36 rfl (lv_at hl 0 rfl) ?_
        refine va_get (D := D) (ci := 2) (v := .ref h_t_at) (C := RX2) (T := TX2) (N := 1) hx hb hts w8 hown hK hP 0 rfl rfl 0 (by decide) w7 (fun _ h9 => h9) rfl dX2_kindOfClass_37 ?_
        refine lv_iconst (v := 1) hx hb dX2_kindOfClass_40 (by decide) ?_
        refine lv_iconst (v := 1) hx hb dX2_kindOfClass_41 (by decide) ?_
        refine lv_iload_n hx hb dX2_kindOfClass_42 rfl (lv_at hl 3 rfl) ?_
        refine lv_ishl hx hb dX2_kindOfClass_43 ?_
        obtain ⟨q_6, hq_6, hM⟩ := on_bind hM
        refine on_callS (rest := [.int v2]) (As := [.ref h_p0, .ref h_t_at, .int (1 : Int32), .int ((1 : Int32) <<< (v3 &&& 31))]) (st1 := [.int q_6.1, .int v2]) (wc := [(h_p0, .inr (0, [.int p0_many, .ref h_p0_rows])), (h_p0_rows, .inl (cI, 7, .inl q_4)), (h_t_at, .inl (cI, 7, .inl (upd t_at (Int32.toNatClampNeg (0 : Int32)) v3)))]) (wr := [(h_t, .inr (2, [.ref h_t_at]))]) (wc' := [(h_p0, .inr (0, [.int p0_many, .ref h_p0_rows])), (h_p0_rows, .inl (cI, 7, .inl q_4)), (h_t_at, .inl (cI, 7, .inl q_6.2))]) (wf := [(h_t, .inr (2, [.ref h_t_at])), (h_t_at, .inl (cI, 7, .inl q_6.2)), (h_p0, .inr (0, [.int p0_many, .ref h_p0_rows])), (h_p0_rows, .inl (cI, 7, .inl q_4))]) (rt := (some (.int q_6.1))) ⟨hx, hb, hml, hown, hts⟩ (k_X2_leastNumber on_dep h_p0 h_p0_rows h_t_at p0_many q_4 (upd t_at (Int32.toNatClampNeg (0 : Int32)) v3) (1 : Int32) ((1 : Int32) <<< (v3 &&& 31)) q_6 hq_6) (va_cwS 4 hts gX2_kindOfClass_X2_leastNumber rfl rfl rfl hdX2_leastNumber ⟨(Nat.le_of_ble_eq_true rfl), (Nat.le_of_ble_eq_true rfl)⟩) hK hN hP hD hS hA [2, 3, 1] [0] [0, 3, 1, 2] rfl rfl rfl rfl (by decide) rfl rfl rfl hl.1 rfl (Nat.le_of_ble_eq_true rfl) rfl dX2_kindOfClass_44 ⟨Nat.zero_le _, Nat.zero_le _⟩ (fun H locs hP hD hS => ?_)
        refine va_mmin (rest := []) hx hb (hml.trans hl.1.symm) hown w9 w10 w11 w12 (Nat.le_of_ble_eq_true rfl) (Nat.le_of_ble_eq_true rfl) (Nat.le_refl _) (Nat.le_refl _) dX2_kindOfClass_47 ?_
        refine lv_topi (fun v2_7 ev2_7 => ?_)
        have hM := on_letE ev2_7 hM
        refine lv_istore_n (lv' := [(2, .int v2_7), (0, .ref h_t), (1, .ref h_p0), (3, .int v3)]) hx hb dX2_kindOfClass_50 rfl hl (by decide) rfl (fun ls hl => ?_)
        obtain ⟨v3_8, ev3_8⟩ : ∃ z : Int32, z = v3 + 1 := ⟨_, rfl⟩
        have hM := on_letE ev3_8 hM
        refine lv_iinc (v := v3_8) (lv' := [(3, .int v3_8), (2, .int v2_7), (0, .ref h_t), (1, .ref h_p0)]) hx hb dX2_kindOfClass_51 hl (k := 3) rfl (by rw [ev3_8]; rfl) (by decide) rfl (fun ls hl => ?_)
        refine lv_goto (tgt := 14) hx hb dX2_kindOfClass_54 (by decide) ?_
        have hk := on_nxL hM hk
        exact ih v2_7 v3_8 q_6.2 q_4 _ hk K1 _ _ hP hD hS ls (lv_sub hl [2, 3, 1, 0] rfl)
  refine lv_iconst (v := 1) hx hb dX2_kindOfClass_0 (by decide) ?_
  refine lv_aload_n hx hb dX2_kindOfClass_1 rfl (lv_at hl 1 rfl) ?_
  refine va_getN (D := D) (ci := 0) (v := .int p0_many) (C := RX0) (T := TX0) (N := 2) hx hb hts w1 hown hK hP 2 rfl rfl 0 (by decide) (va_Nw.use rfl (hN _ (List.mem_of_getElem? (i := 3) rfl))) (fun _ h9 => h9) rfl dX2_kindOfClass_2 ?_
  obtain ⟨q_1, hq_1, hM⟩ := on_bind hM
  refine on_callSN0 (rest := [.int (1 : Int32)]) (As := [.int p0_many]) (st1 := [.int q_1, .int (1 : Int32)]) ⟨hx, hb, hml, hown, hts⟩ (k_X5_pairsOf p0_many q_1 hq_1) ⟨va_cnB 1 hts gX2_kindOfClass_X5_pairsOf_n21 rfl rfl rfl (hN _ (List.mem_of_getElem? (i := 44) rfl)) w2 hdX5_pairsOf ⟨(Nat.le_of_ble_eq_true rfl), (Nat.le_of_ble_eq_true rfl)⟩, w3, trivial⟩ hK hN hP hD hS hA rfl hl.1 rfl (Nat.le_of_ble_eq_true rfl) rfl dX2_kindOfClass_5 ⟨Nat.zero_le _, Nat.zero_le _⟩ (fun H locs hP hS => ?_)
  refine lv_ishl hx hb dX2_kindOfClass_8 ?_
  refine lv_iconst (v := 1) hx hb dX2_kindOfClass_9 (by decide) ?_
  refine lv_isub hx hb dX2_kindOfClass_10 ?_
  refine lv_topi (fun v2_2 ev2_2 => ?_)
  have hM := on_letE ev2_2 hM
  refine lv_istore_n (lv' := [(2, .int v2_2), (0, .ref h_t), (1, .ref h_p0)]) hx hb dX2_kindOfClass_11 rfl hl (by decide) rfl (fun ls hl => ?_)
  refine lv_iconst (v := 0) hx hb dX2_kindOfClass_12 (by decide) ?_
  refine lv_istore_n (lv' := [(3, .int (0 : Int32)), (2, .int v2_2), (0, .ref h_t), (1, .ref h_p0)]) hx hb dX2_kindOfClass_13 rfl hl (by decide) rfl (fun ls hl => ?_)
  obtain ⟨q_9, hq_9, hM⟩ := on_bind hM
  refine lp_14  on_F v2_2 (0 : Int32) t_at p0_rows q_9 hq_9 (fun H locs hP hD hS ls hl => ?_) H locs hP hD hS ls (lv_sub hl [2, 3, 1, 0] rfl)
  refine lv_iload_n hx hb dX2_kindOfClass_57 rfl (lv_at hl 0 rfl) ?_
  have hM := Option.some.inj hM
  subst hM
  rw [← hQ]
  exact on_iret hx hb hr hlk hP hD hS dX2_kindOfClass_58
abbrev rm_X5_kindOfSlot : Room := { frames := 13, cells := 0, slots := 0, locals := 353 }
set_option maxHeartbeats 4000000 in
set_option maxRecDepth 100000 in
theorem k_X5_kindOfSlot {l : Launch} {D : va_G} {cI cJ cZ cS cA : ClassId} (h_t : Nat) (h_t_now : Nat) (h_t_images : Nat) (h_t_pad : Nat) (h_t_net : Nat) (h_t_second : Nat) (h_t_renumbering : Nat) (h_t_table : Nat) (h_t_marks : Nat) (h_t_now_numbers : Nat) (h_t_net_rows : Nat) (h_t_renumbering_at : Nat) (t_now_many : Int32) (t_now_numbers : Nat → Int32) (t_net_many : Int32) (t_net_rows : Nat → Int32) (t_renumbering_at : Nat → Int32) (v1 : Int32) (out : Int32 × Int32 × (Nat → Int32) × (Nat → Int32)) (hM : M_X5_kindOfSlot v1 t_now_many t_now_numbers t_net_rows t_renumbering_at = some out) : on_Con l yX5_kindOfSlot wsX5_kindOfSlot rm_X5_kindOfSlot [.ref h_t, .int v1] D (on_T cI cJ cZ cS cA) [(h_t, .inr (5, [.ref h_t_now, .ref h_t_images, .ref h_t_pad, .ref h_t_net, .ref h_t_second, .ref h_t_renumbering, .ref h_t_table, .ref h_t_marks])), (h_t_now, .inr (3, [.int t_now_many, .ref h_t_now_numbers])), (h_t_now_numbers, .inl (cI, 3, .inl t_now_numbers)), (h_t_net, .inr (0, [.int t_net_many, .ref h_t_net_rows])), (h_t_net_rows, .inl (cI, 7, .inl t_net_rows)), (h_t_renumbering, .inr (2, [.ref h_t_renumbering_at])), (h_t_renumbering_at, .inl (cI, 7, .inl t_renumbering_at))] (some (.int out.1)) [(h_t, .inr (5, [.ref h_t_now, .ref h_t_images, .ref h_t_pad, .ref h_t_net, .ref h_t_second, .ref h_t_renumbering, .ref h_t_table, .ref h_t_marks])), (h_t_now, .inr (3, [.int t_now_many, .ref h_t_now_numbers])), (h_t_now_numbers, .inl (cI, 3, .inl t_now_numbers)), (h_t_net, .inr (0, [.int out.2.1, .ref h_t_net_rows])), (h_t_net_rows, .inl (cI, 7, .inl out.2.2.1)), (h_t_renumbering, .inr (2, [.ref h_t_renumbering_at])), (h_t_renumbering_at, .inl (cI, 7, .inl out.2.2.2))] := by
  unfold M_X5_kindOfSlot at hM
  refine on_enter (cc := cX5_kindOfSlot) (nL := 2) (rt := (some .int)) (own := RX5) (by decide +kernel) rfl rfl (Nat.le_of_ble_eq_true rfl) ?_
  intro p e s m below meth c A ls hx hb hml hr hlk hts hown hA hK hN H locs hP hD hS hl
  have hl : lv_has ls 2 [(0, .ref h_t), (1, .int v1)] := hl
  generalize hQ : MQ below (on_Q D (some (.int out.1)) [(h_t, .inr (5, [.ref h_t_now, .ref h_t_images, .ref h_t_pad, .ref h_t_net, .ref h_t_second, .ref h_t_renumbering, .ref h_t_table, .ref h_t_marks])), (h_t_now, .inr (3, [.int t_now_many, .ref h_t_now_numbers])), (h_t_now_numbers, .inl (cI, 3, .inl t_now_numbers)), (h_t_net, .inr (0, [.int out.2.1, .ref h_t_net_rows])), (h_t_net_rows, .inl (cI, 7, .inl out.2.2.1)), (h_t_renumbering, .inr (2, [.ref h_t_renumbering_at])), (h_t_renumbering_at, .inl (cI, 7, .inl out.2.2.2))] A) _ s 0 0 A = Q
  generalize hAr : List.toArray ([.ref h_t, .int v1] : List Value) = args at hts hQ ⊢
  have w1 := hts (.fieldLink RX5 30 "OddNets" "net" "LOddNets$Net;") (by decide +kernel)
  have w2 : ∀ w ∈ wsX50, w ∈ wsX5_kindOfSlot := by decide +kernel
  have w3 := hts (.fieldLink RX5 40 "OddNets" "renumbering" "LOddNets$Renumbering;") (by decide +kernel)
  have w4 := hts (.initialized RX2) (by decide +kernel)
  have w5 := hts (.instanceMethod yX2_kindOfClass) (by decide +kernel)
  have w6 := hts (.selects RX2 yX2_kindOfClass yX2_kindOfClass) (by decide +kernel)
  refine lv_aload_n hx hb dX5_kindOfSlot_0 rfl (lv_at hl 0 rfl) ?_
  refine lv_aload_n hx hb dX5_kindOfSlot_1 rfl (lv_at hl 0 rfl) ?_
  refine va_get (D := D) (ci := 5) (v := .ref h_t_net) (C := RX5) (T := TX5) (N := 8) hx hb hts w2 hown hK hP 0 rfl rfl 3 (by decide) w1 (fun _ h9 => h9) rfl dX5_kindOfSlot_2 ?_
  refine lv_iload_n hx hb dX5_kindOfSlot_5 rfl (lv_at hl 1 rfl) ?_
  obtain ⟨q_1, hq_1, hM⟩ := on_bind hM
  refine on_callV (rest := []) (As := [.ref h_t_net, .int v1]) (st1 := []) (C := RX5) (ci := 5) (q0 := 0) (wc := [(h_t, .inr (5, [.ref h_t_now, .ref h_t_images, .ref h_t_pad, .ref h_t_net, .ref h_t_second, .ref h_t_renumbering, .ref h_t_table, .ref h_t_marks])), (h_t_now, .inr (3, [.int t_now_many, .ref h_t_now_numbers])), (h_t_now_numbers, .inl (cI, 3, .inl t_now_numbers)), (h_t_net, .inr (0, [.int t_net_many, .ref h_t_net_rows])), (h_t_net_rows, .inl (cI, 7, .inl t_net_rows))]) (wr := [(h_t_renumbering, .inr (2, [.ref h_t_renumbering_at])), (h_t_renumbering_at, .inl (cI, 7, .inl t_renumbering_at))]) (wc' := [(h_t, .inr (5, [.ref h_t_now, .ref h_t_images, .ref h_t_pad, .ref h_t_net, .ref h_t_second, .ref h_t_renumbering, .ref h_t_table, .ref h_t_marks])), (h_t_now, .inr (3, [.int t_now_many, .ref h_t_now_numbers])), (h_t_now_numbers, .inl (cI, 3, .inl t_now_numbers)), (h_t_net, .inr (0, [.int q_1.1, .ref h_t_net_rows])), (h_t_net_rows, .inl (cI, 7, .inl q_1.2))]) (wf := [(h_t, .inr (5, [.ref h_t_now, .ref h_t_images, .ref h_t_pad, .ref h_t_net, .ref h_t_second, .ref h_t_renumbering, .ref h_t_table, .ref h_t_marks])), (h_t_now, .inr (3, [.int t_now_many, .ref h_t_now_numbers])), (h_t_now_numbers, .inl (cI, 3, .inl t_now_numbers)), (h_t_net, .inr (0, [.int q_1.1, .ref h_t_net_rows])), (h_t_net_rows, .inl (cI, 7, .inl q_1.2)), (h_t_renumbering, .inr (2, [.ref h_t_renumbering_at])), (h_t_renumbering_at, .inl (cI, 7, .inl t_renumbering_at))]) (rt := none) ⟨hx, hb, hml, hown, hts⟩ (k_X5_load h_t h_t_now h_t_images h_t_pad h_t_net h_t_second h_t_renumbering h_t_table h_t_marks h_t_now_numbers h_t_net h_t_net_rows t_now_many t_now_numbers t_net_many t_net_rows v1 q_1 hq_1) (cwV 2 hts gX5_kindOfSlot_X5_load rfl rfl rfl ⟨rfl, hdX5_load⟩ ⟨(Nat.le_of_ble_eq_true rfl), (Nat.le_of_ble_eq_true rfl)⟩) hK hN hP hD hS hA [0, 1, 2, 3, 4] [5, 6] [2, 3, 4, 5, 6, 0, 1] rfl rfl rfl rfl (by decide) rfl rfl rfl rfl rfl rfl hl.1 rfl (Nat.le_of_ble_eq_true rfl) rfl dX5_kindOfSlot_6 ⟨Nat.zero_le _, Nat.zero_le _⟩ (fun H locs hP hD hS => ?_)
  refine lv_aload_n hx hb dX5_kindOfSlot_9 rfl (lv_at hl 0 rfl) ?_
  refine va_get (D := D) (ci := 5) (v := .ref h_t_renumbering) (C := RX5) (T := TX5) (N := 8) hx hb hts w2 hown hK hP 0 rfl rfl 5 (by decide) w3 (fun _ h9 => h9) rfl dX5_kindOfSlot_10 ?_
  refine lv_aload_n hx hb dX5_kindOfSlot_13 rfl (lv_at hl 0 rfl) ?_
  refine va_get (D := D) (ci := 5) (v := .ref h_t_net) (C := RX5) (T := TX5) (N := 8) hx hb hts w2 hown hK hP 0 rfl rfl 3 (by decide) w1 (fun _ h9 => h9) rfl dX5_kindOfSlot_14 ?_
  obtain ⟨q_2, hq_2, hM⟩ := on_bind hM
  refine on_callVN (rest := []) (As := [.ref h_t_net]) (st1 := [.int q_2.1]) (C := RX2) (ci := 2) (q0 := 5) (wc := [(h_t_renumbering, .inr (2, [.ref h_t_renumbering_at])), (h_t_renumbering_at, .inl (cI, 7, .inl t_renumbering_at)), (h_t_net, .inr (0, [.int q_1.1, .ref h_t_net_rows])), (h_t_net_rows, .inl (cI, 7, .inl q_1.2))]) (wr := [(h_t, .inr (5, [.ref h_t_now, .ref h_t_images, .ref h_t_pad, .ref h_t_net, .ref h_t_second, .ref h_t_renumbering, .ref h_t_table, .ref h_t_marks])), (h_t_now, .inr (3, [.int t_now_many, .ref h_t_now_numbers])), (h_t_now_numbers, .inl (cI, 3, .inl t_now_numbers))]) (wc' := [(h_t_renumbering, .inr (2, [.ref h_t_renumbering_at])), (h_t_renumbering_at, .inl (cI, 7, .inl q_2.2.1)), (h_t_net, .inr (0, [.int q_1.1, .ref h_t_net_rows])), (h_t_net_rows, .inl (cI, 7, .inl q_2.2.2))]) (wf := [(h_t, .inr (5, [.ref h_t_now, .ref h_t_images, .ref h_t_pad, .ref h_t_net, .ref h_t_second, .ref h_t_renumbering, .ref h_t_table, .ref h_t_marks])), (h_t_now, .inr (3, [.int t_now_many, .ref h_t_now_numbers])), (h_t_now_numbers, .inl (cI, 3, .inl t_now_numbers)), (h_t_net, .inr (0, [.int q_1.1, .ref h_t_net_rows])), (h_t_net_rows, .inl (cI, 7, .inl q_2.2.2)), (h_t_renumbering, .inr (2, [.ref h_t_renumbering_at])), (h_t_renumbering_at, .inl (cI, 7, .inl q_2.2.1))]) (rt := (some (.int q_2.1))) ⟨hx, hb, hml, hown, hts⟩ (k_X2_kindOfClass h_t_renumbering h_t_renumbering_at h_t_net h_t_net_rows t_renumbering_at q_1.1 q_1.2 q_2 hq_2) ⟨va_cnB 1 hts gX5_kindOfSlot_X2_kindOfClass_n179 rfl rfl rfl (hN _ (List.mem_of_getElem? (i := 43) rfl)) w4 hdX2_kindOfClass ⟨(Nat.le_of_ble_eq_true rfl), (Nat.le_of_ble_eq_true rfl)⟩, w5, w6⟩ hK hN hP hD hS hA [5, 6, 3, 4] [0, 1, 2] [0, 1, 2, 5, 6, 3, 4] rfl rfl rfl rfl (by decide) rfl rfl rfl rfl rfl rfl hl.1 rfl (Nat.le_of_ble_eq_true rfl) rfl dX5_kindOfSlot_17 ⟨Nat.zero_le _, Nat.zero_le _⟩ (fun H locs hP hD hS => ?_)
  have hM := Option.some.inj hM
  subst hM
  rw [← hQ]
  exact on_iret hx hb hr hlk hP hD hS dX5_kindOfSlot_20
abbrev rm_X2_goesTo : Room := { frames := 2, cells := 0, slots := 0, locals := 41 }
set_option maxHeartbeats 4000000 in
set_option maxRecDepth 100000 in
theorem k_X2_goesTo {l : Launch} {D : va_G} {cI cJ cZ cS cA : ClassId} (h_p0 : Nat) (h_p0_rows : Nat) (h_p1 : Nat) (h_p1_rows : Nat) (h_p2 : Nat) (p0_many : Int32) (p0_rows : Nat → Int32) (p1_many : Int32) (p1_rows : Nat → Int32) (p2 : Nat → Int32) (v3 : Int32) (v4 : Int32) (out : Int32) (hM : M_X2_goesTo v3 v4 p0_rows p1_rows p2 = some out) : on_Con l yX2_goesTo wsX2_goesTo rm_X2_goesTo [.ref h_p0, .ref h_p1, .ref h_p2, .int v3, .int v4] D (on_T cI cJ cZ cS cA) [(h_p0, .inr (0, [.int p0_many, .ref h_p0_rows])), (h_p0_rows, .inl (cI, 7, .inl p0_rows)), (h_p1, .inr (0, [.int p1_many, .ref h_p1_rows])), (h_p1_rows, .inl (cI, 7, .inl p1_rows)), (h_p2, .inl (cI, 7, .inl p2))] (some (.int out)) [(h_p0, .inr (0, [.int p0_many, .ref h_p0_rows])), (h_p0_rows, .inl (cI, 7, .inl p0_rows)), (h_p1, .inr (0, [.int p1_many, .ref h_p1_rows])), (h_p1_rows, .inl (cI, 7, .inl p1_rows)), (h_p2, .inl (cI, 7, .inl p2))] := by
  unfold M_X2_goesTo at hM
  refine on_enter (cc := cX2_goesTo) (nL := 6) (rt := (some .boolean)) (own := RX2) (by decide +kernel) rfl rfl (Nat.le_of_ble_eq_true rfl) ?_
  intro p e s m below meth c A ls hx hb hml hr hlk hts hown hA hK hN H locs hP hD hS hl
  have hl : lv_has ls 6 [(0, .ref h_p0), (1, .ref h_p1), (2, .ref h_p2), (3, .int v3), (4, .int v4)] := hl
  generalize hQ : MQ below (on_Q D (some (.int out)) [(h_p0, .inr (0, [.int p0_many, .ref h_p0_rows])), (h_p0_rows, .inl (cI, 7, .inl p0_rows)), (h_p1, .inr (0, [.int p1_many, .ref h_p1_rows])), (h_p1_rows, .inl (cI, 7, .inl p1_rows)), (h_p2, .inl (cI, 7, .inl p2))] A) _ s 0 0 A = Q
  generalize hAr : List.toArray ([.ref h_p0, .ref h_p1, .ref h_p2, .int v3, .int v4] : List Value) = args at hts hQ ⊢
  have w1 := hts (.initialized RX0) (by decide +kernel)
  have w2 := hts (.instanceMethod yX0_degree) (by decide +kernel)
  have w3 := hts (.selects RX0 yX0_degree yX0_degree) (by decide +kernel)
  have w4 := hts (.instanceMethod yX0_joined) (by decide +kernel)
  have w5 := hts (.selects RX0 yX0_joined yX0_joined) (by decide +kernel)
  have lp_19 : ∀ (v3 : Int32) (v4 : Int32), ∀ (n : Nat) (v5 : Int32) (x : Int32 ⊕ Unit), on_loop (fun (s : Int32) => B_X2_goesTo_19 v3 v4 p0_rows p1_rows p2 s) n v5 = some x → (∀ u, x = Sum.inr u → ∀ (H : Heap) (locs : List Loc), va_P D vwCl [(h_p0, .inr (0, [.int p0_many, .ref h_p0_rows])), (h_p0_rows, .inl (cI, 7, .inl p0_rows)), (h_p1, .inr (0, [.int p1_many, .ref h_p1_rows])), (h_p1_rows, .inl (cI, 7, .inl p1_rows)), (h_p2, .inl (cI, 7, .inl p2))] H → va_D A [(h_p0, .inr (0, [.int p0_many, .ref h_p0_rows])), (h_p0_rows, .inl (cI, 7, .inl p0_rows)), (h_p1, .inr (0, [.int p1_many, .ref h_p1_rows])), (h_p1_rows, .inl (cI, 7, .inl p1_rows)), (h_p2, .inl (cI, 7, .inl p2))] → va_S A s.heap H locs → ∀ ls : Array Slot, lv_has ls 6 [] → W p l e rm_X2_goesTo s m args below meth c H locs 0 0 Q (F0 m 53 ls [])) → (∀ o, x = Sum.inl o → o = out) → ∀ (H : Heap) (locs : List Loc), va_P D vwCl [(h_p0, .inr (0, [.int p0_many, .ref h_p0_rows])), (h_p0_rows, .inl (cI, 7, .inl p0_rows)), (h_p1, .inr (0, [.int p1_many, .ref h_p1_rows])), (h_p1_rows, .inl (cI, 7, .inl p1_rows)), (h_p2, .inl (cI, 7, .inl p2))] H → va_D A [(h_p0, .inr (0, [.int p0_many, .ref h_p0_rows])), (h_p0_rows, .inl (cI, 7, .inl p0_rows)), (h_p1, .inr (0, [.int p1_many, .ref h_p1_rows])), (h_p1_rows, .inl (cI, 7, .inl p1_rows)), (h_p2, .inl (cI, 7, .inl p2))] → va_S A s.heap H locs → ∀ ls : Array Slot, lv_has ls 6 [(0, .ref h_p0), (1, .ref h_p1), (2, .ref h_p2), (3, .int v3), (4, .int v4), (5, .int v5)] → W p l e rm_X2_goesTo s m args below meth c H locs 0 0 Q (F0 m 19 ls []) := by
    intro v3 v4
    intro n
    induction n with
    | zero =>
      intro v5 x hL
      exact (on_loop0 hL).elim
    | succ n ih =>
      intro v5 x hL K1 K2 H locs hP hD hS ls hl
      obtain ⟨y, hM, hk⟩ := on_loopE hL
      have hM : B_X2_goesTo_19 v3 v4 p0_rows p1_rows p2 v5 = some y := hM
      unfold B_X2_goesTo_19 at hM
      refine lv_iload hx hb dX2_goesTo_19 (lv_at hl 5 rfl) ?_
      refine lv_iload_n hx hb dX2_goesTo_21 rfl (lv_at hl 3 rfl) ?_
      refine lv_icmp_ge (tgt := 53) hx hb dX2_goesTo_22 (by decide) (fun c_4 => ?_) (fun c_4 => ?_)
      · have hM := on_pos c_4 hM
        have hk := on_nxR hM hk
        subst hk
        exact K1 _ rfl _ _ hP hD hS ls (lv_sub hl [] rfl)
      · have hM := on_neg c_4 hM
        refine lv_aload_n hx hb dX2_goesTo_25 rfl (lv_at hl 0 rfl) ?_
        refine lv_iload hx hb dX2_goesTo_26 (lv_at hl 5 rfl) ?_
        refine lv_iload_n hx hb dX2_goesTo_28 rfl (lv_at hl 3 rfl) ?_
        obtain ⟨q_5, hq_5, hM⟩ := on_bind hM
        refine on_callVN (rest := []) (As := [.int v5, .int v3]) (st1 := [.int q_5]) (C := RX0) (ci := 0) (q0 := 0) (wc := [(h_p0, .inr (0, [.int p0_many, .ref h_p0_rows])), (h_p0_rows, .inl (cI, 7, .inl p0_rows))]) (wr := [(h_p1, .inr (0, [.int p1_many, .ref h_p1_rows])), (h_p1_rows, .inl (cI, 7, .inl p1_rows)), (h_p2, .inl (cI, 7, .inl p2))]) (wc' := [(h_p0, .inr (0, [.int p0_many, .ref h_p0_rows])), (h_p0_rows, .inl (cI, 7, .inl p0_rows))]) (wf := [(h_p0, .inr (0, [.int p0_many, .ref h_p0_rows])), (h_p0_rows, .inl (cI, 7, .inl p0_rows)), (h_p1, .inr (0, [.int p1_many, .ref h_p1_rows])), (h_p1_rows, .inl (cI, 7, .inl p1_rows)), (h_p2, .inl (cI, 7, .inl p2))]) (rt := (some (.int q_5))) ⟨hx, hb, hml, hown, hts⟩ (k_X0_joined h_p0 h_p0_rows p0_many p0_rows v5 v3 q_5 hq_5) ⟨va_cnB 2 hts gX2_goesTo_X0_joined_n60 rfl rfl rfl (hN _ (List.mem_of_getElem? (i := 42) rfl)) w1 hdX0_joined ⟨(Nat.le_of_ble_eq_true rfl), (Nat.le_of_ble_eq_true rfl)⟩, w4, w5⟩ hK hN hP hD hS hA [0, 1] [2, 3, 4] [3, 4, 0, 1, 2] rfl rfl rfl rfl (by decide) rfl rfl rfl rfl rfl rfl hl.1 rfl (Nat.le_of_ble_eq_true rfl) rfl dX2_goesTo_29 ⟨Nat.zero_le _, Nat.zero_le _⟩ (fun H locs hP hD hS => ?_)
        refine lv_aload_n hx hb dX2_goesTo_32 rfl (lv_at hl 1 rfl) ?_
        refine lv_aload_n hx hb dX2_goesTo_33 rfl (lv_at hl 2 rfl) ?_
        refine lv_iload hx hb dX2_goesTo_34 (lv_at hl 5 rfl) ?_
        obtain ⟨g_6, hM⟩ := on_gdE hM
        refine va_iald hx hb hK hP 4 0 rfl rfl (on_ixE g_6) dX2_goesTo_36 ?_
        refine lv_iload hx hb dX2_goesTo_37 (lv_at hl 4 rfl) ?_
        obtain ⟨q_7, hq_7, hM⟩ := on_bind hM
        refine on_callVN (rest := [.int q_5]) (As := [.int (p2 (Int32.toNatClampNeg v5)), .int v4]) (st1 := [.int q_7, .int q_5]) (C := RX0) (ci := 0) (q0 := 2) (wc := [(h_p1, .inr (0, [.int p1_many, .ref h_p1_rows])), (h_p1_rows, .inl (cI, 7, .inl p1_rows))]) (wr := [(h_p0, .inr (0, [.int p0_many, .ref h_p0_rows])), (h_p0_rows, .inl (cI, 7, .inl p0_rows)), (h_p2, .inl (cI, 7, .inl p2))]) (wc' := [(h_p1, .inr (0, [.int p1_many, .ref h_p1_rows])), (h_p1_rows, .inl (cI, 7, .inl p1_rows))]) (wf := [(h_p0, .inr (0, [.int p0_many, .ref h_p0_rows])), (h_p0_rows, .inl (cI, 7, .inl p0_rows)), (h_p1, .inr (0, [.int p1_many, .ref h_p1_rows])), (h_p1_rows, .inl (cI, 7, .inl p1_rows)), (h_p2, .inl (cI, 7, .inl p2))]) (rt := (some (.int q_7))) ⟨hx, hb, hml, hown, hts⟩ (k_X0_joined h_p1 h_p1_rows p1_many p1_rows (p2 (Int32.toNatClampNeg v5)) v4 q_7 hq_7) ⟨va_cnB 2 hts gX2_goesTo_X0_joined_n60 rfl rfl rfl (hN _ (List.mem_of_getElem? (i := 42) rfl)) w1 hdX0_joined ⟨(Nat.le_of_ble_eq_true rfl), (Nat.le_of_ble_eq_true rfl)⟩, w4, w5⟩ hK hN hP hD hS hA [2, 3] [0, 1, 4] [0, 1, 3, 4, 2] rfl rfl rfl rfl (by decide) rfl rfl rfl rfl rfl rfl hl.1 rfl (Nat.le_of_ble_eq_true rfl) rfl dX2_goesTo_39 ⟨Nat.zero_le _, Nat.zero_le _⟩ (fun H locs hP hD hS => ?_)
        refine lv_icmp_eq (tgt := 47) hx hb dX2_goesTo_42 (by decide) (fun c_8 => ?_) (fun c_8 => ?_)
        · have hM := on_pos c_8 hM
          obtain ⟨v5_9, ev5_9⟩ : ∃ z : Int32, z = v5 + 1 := ⟨_, rfl⟩
          have hM := on_letE ev5_9 hM
          refine lv_iinc (v := v5_9) (lv' := [(5, .int v5_9), (0, .ref h_p0), (1, .ref h_p1), (2, .ref h_p2), (3, .int v3), (4, .int v4)]) hx hb dX2_goesTo_47 hl (k := 5) rfl (by rw [ev5_9]; rfl) (by decide) rfl (fun ls hl => ?_)
          refine lv_goto (tgt := 19) hx hb dX2_goesTo_50 (by decide) ?_
          have hk := on_nxL hM hk
          exact ih v5_9 _ hk K1 K2 _ _ hP hD hS ls (lv_sub hl [1, 2, 3, 4, 5, 0] rfl)
        · have hM := on_neg c_8 hM
          refine lv_iconst (v := 0) hx hb dX2_goesTo_45 (by decide) ?_
          have hk := on_nxR hM hk
          subst hk
          have ho := K2 _ rfl
          subst ho
          rw [← hQ]
          exact on_zret hx hb hr hlk hP hD hS rfl dX2_goesTo_46
  refine lv_aload_n hx hb dX2_goesTo_0 rfl (lv_at hl 0 rfl) ?_
  refine lv_iload_n hx hb dX2_goesTo_1 rfl (lv_at hl 3 rfl) ?_
  obtain ⟨q_1, hq_1, hM⟩ := on_bind hM
  refine on_callVN (rest := []) (As := [.int v3]) (st1 := [.int q_1]) (C := RX0) (ci := 0) (q0 := 0) (wc := [(h_p0, .inr (0, [.int p0_many, .ref h_p0_rows])), (h_p0_rows, .inl (cI, 7, .inl p0_rows))]) (wr := [(h_p1, .inr (0, [.int p1_many, .ref h_p1_rows])), (h_p1_rows, .inl (cI, 7, .inl p1_rows)), (h_p2, .inl (cI, 7, .inl p2))]) (wc' := [(h_p0, .inr (0, [.int p0_many, .ref h_p0_rows])), (h_p0_rows, .inl (cI, 7, .inl p0_rows))]) (wf := [(h_p0, .inr (0, [.int p0_many, .ref h_p0_rows])), (h_p0_rows, .inl (cI, 7, .inl p0_rows)), (h_p1, .inr (0, [.int p1_many, .ref h_p1_rows])), (h_p1_rows, .inl (cI, 7, .inl p1_rows)), (h_p2, .inl (cI, 7, .inl p2))]) (rt := (some (.int q_1))) ⟨hx, hb, hml, hown, hts⟩ (k_X0_degree h_p0 h_p0_rows p0_many p0_rows v3 q_1 hq_1) ⟨va_cnB 1 hts gX2_goesTo_X0_degree_n81 rfl rfl rfl (hN _ (List.mem_of_getElem? (i := 41) rfl)) w1 hdX0_degree ⟨(Nat.le_of_ble_eq_true rfl), (Nat.le_of_ble_eq_true rfl)⟩, w2, w3⟩ hK hN hP hD hS hA [0, 1] [2, 3, 4] [3, 4, 0, 1, 2] rfl rfl rfl rfl (by decide) rfl rfl rfl rfl rfl rfl hl.1 rfl (Nat.le_of_ble_eq_true rfl) rfl dX2_goesTo_2 ⟨Nat.zero_le _, Nat.zero_le _⟩ (fun H locs hP hD hS => ?_)
  refine lv_aload_n hx hb dX2_goesTo_5 rfl (lv_at hl 1 rfl) ?_
  refine lv_iload hx hb dX2_goesTo_6 (lv_at hl 4 rfl) ?_
  obtain ⟨q_2, hq_2, hM⟩ := on_bind hM
  refine on_callVN (rest := [.int q_1]) (As := [.int v4]) (st1 := [.int q_2, .int q_1]) (C := RX0) (ci := 0) (q0 := 2) (wc := [(h_p1, .inr (0, [.int p1_many, .ref h_p1_rows])), (h_p1_rows, .inl (cI, 7, .inl p1_rows))]) (wr := [(h_p0, .inr (0, [.int p0_many, .ref h_p0_rows])), (h_p0_rows, .inl (cI, 7, .inl p0_rows)), (h_p2, .inl (cI, 7, .inl p2))]) (wc' := [(h_p1, .inr (0, [.int p1_many, .ref h_p1_rows])), (h_p1_rows, .inl (cI, 7, .inl p1_rows))]) (wf := [(h_p0, .inr (0, [.int p0_many, .ref h_p0_rows])), (h_p0_rows, .inl (cI, 7, .inl p0_rows)), (h_p1, .inr (0, [.int p1_many, .ref h_p1_rows])), (h_p1_rows, .inl (cI, 7, .inl p1_rows)), (h_p2, .inl (cI, 7, .inl p2))]) (rt := (some (.int q_2))) ⟨hx, hb, hml, hown, hts⟩ (k_X0_degree h_p1 h_p1_rows p1_many p1_rows v4 q_2 hq_2) ⟨va_cnB 1 hts gX2_goesTo_X0_degree_n81 rfl rfl rfl (hN _ (List.mem_of_getElem? (i := 41) rfl)) w1 hdX0_degree ⟨(Nat.le_of_ble_eq_true rfl), (Nat.le_of_ble_eq_true rfl)⟩, w2, w3⟩ hK hN hP hD hS hA [2, 3] [0, 1, 4] [0, 1, 3, 4, 2] rfl rfl rfl rfl (by decide) rfl rfl rfl rfl rfl rfl hl.1 rfl (Nat.le_of_ble_eq_true rfl) rfl dX2_goesTo_8 ⟨Nat.zero_le _, Nat.zero_le _⟩ (fun H locs hP hD hS => ?_)
  refine lv_icmp_eq (tgt := 16) hx hb dX2_goesTo_11 (by decide) (fun c_3 => ?_) (fun c_3 => ?_)
  · have hM := on_pos c_3 hM
    refine lv_iconst (v := 0) hx hb dX2_goesTo_16 (by decide) ?_
    refine lv_istore (lv' := [(5, .int (0 : Int32)), (0, .ref h_p0), (1, .ref h_p1), (2, .ref h_p2), (3, .int v3), (4, .int v4)]) hx hb dX2_goesTo_17 hl (by decide) rfl (fun ls hl => ?_)
    obtain ⟨q_10, hq_10, hM⟩ := on_bind hM
    refine lp_19 v3 v4 on_F (0 : Int32) q_10 hq_10 (fun u_11 hv H locs hP hD hS ls hl => ?_) (fun o ho => ?_) H locs hP hD hS ls (lv_sub hl [1, 2, 3, 4, 5, 0] rfl)
    · subst hv
      have hM := on_elR hM
      refine lv_iconst (v := 1) hx hb dX2_goesTo_53 (by decide) ?_
      have hM := Option.some.inj hM
      subst hM
      rw [← hQ]
      exact on_zret hx hb hr hlk hP hD hS rfl dX2_goesTo_54
    · subst ho
      have hM := on_elL hM
      exact Option.some.inj hM
  · have hM := on_neg c_3 hM
    refine lv_iconst (v := 0) hx hb dX2_goesTo_14 (by decide) ?_
    have hM := Option.some.inj hM
    subst hM
    rw [← hQ]
    exact on_zret hx hb hr hlk hP hD hS rfl dX2_goesTo_15
abbrev rm_X2_canGoOn (d : Nat) : Room := { frames := 3 + d, cells := 0, slots := 0, locals := 66 + d * 25 }
theorem rrl_X2_canGoOn (d : Nat) : 8 + (6 + 11) + (rm_X2_canGoOn d).locals ≤ (rm_X2_canGoOn (d + 1)).locals := by
  show 8 + (6 + 11) + (66 + d * 25) ≤ 66 + (d + 1) * 25
  omega
set_option maxHeartbeats 4000000 in
set_option maxRecDepth 100000 in
theorem k_X2_canGoOn {l : Launch} {D : va_G} {cI cJ cZ cS cA : ClassId} : ∀ (d : Nat) (h_p0 : Nat) (h_p0_rows : Nat) (h_p1 : Nat) (h_p1_rows : Nat) (h_p2 : Nat) (p0_many : Int32) (p0_rows : Nat → Int32) (p1_many : Int32) (p1_rows : Nat → Int32) (p2 : Nat → Int32) (v3 : Int32) (v4 : Int32) (out : Int32 × (Nat → Int32)) (hM : M_X2_canGoOn d v3 v4 p0_many p0_rows p1_many p1_rows p2 = some out), on_Con l yX2_canGoOn wsX2_canGoOn (rm_X2_canGoOn d) [.ref h_p0, .ref h_p1, .ref h_p2, .int v3, .int v4] D (on_T cI cJ cZ cS cA) [(h_p0, .inr (0, [.int p0_many, .ref h_p0_rows])), (h_p0_rows, .inl (cI, 7, .inl p0_rows)), (h_p1, .inr (0, [.int p1_many, .ref h_p1_rows])), (h_p1_rows, .inl (cI, 7, .inl p1_rows)), (h_p2, .inl (cI, 7, .inl p2))] (some (.int out.1)) [(h_p0, .inr (0, [.int p0_many, .ref h_p0_rows])), (h_p0_rows, .inl (cI, 7, .inl p0_rows)), (h_p1, .inr (0, [.int p1_many, .ref h_p1_rows])), (h_p1_rows, .inl (cI, 7, .inl p1_rows)), (h_p2, .inl (cI, 7, .inl out.2))] := by
  intro d
  induction d with
  | zero =>
    intro h_p0 h_p0_rows h_p1 h_p1_rows h_p2 p0_many p0_rows p1_many p1_rows p2 v3 v4 out hM
    have hM : none = some out := hM
    cases hM
  | succ d ihd =>
  intro h_p0 h_p0_rows h_p1 h_p1_rows h_p2 p0_many p0_rows p1_many p1_rows p2 v3 v4 out hM
  have hM : (if v3 < p0_many then ((on_loop (fun (s : Int32 × (Nat → Int32)) => B_X2_canGoOn_13 (M_X2_canGoOn d) v3 v4 p0_many p0_rows p1_many p1_rows s.1 s.2) on_F ((0 : Int32), p2)).bind (Sum.elim some (fun u_13 => (some ((0 : Int32), u_13))))) else (some ((1 : Int32), p2))) = some out := hM
  refine on_enter (cc := cX2_canGoOn) (nL := 6) (rt := (some .boolean)) (own := RX2) (by decide +kernel) rfl rfl (Nat.le_of_ble_eq_true rfl) ?_
  intro p e s m below meth c A ls hx hb hml hr hlk hts hown hA hK hN H locs hP hD hS hl
  have hl : lv_has ls 6 [(0, .ref h_p0), (1, .ref h_p1), (2, .ref h_p2), (3, .int v3), (4, .int v4)] := hl
  generalize hQ : MQ below (on_Q D (some (.int out.1)) [(h_p0, .inr (0, [.int p0_many, .ref h_p0_rows])), (h_p0_rows, .inl (cI, 7, .inl p0_rows)), (h_p1, .inr (0, [.int p1_many, .ref h_p1_rows])), (h_p1_rows, .inl (cI, 7, .inl p1_rows)), (h_p2, .inl (cI, 7, .inl out.2))] A) _ s 0 0 A = Q
  generalize hAr : List.toArray ([.ref h_p0, .ref h_p1, .ref h_p2, .int v3, .int v4] : List Value) = args at hts hQ ⊢
  have w1 : ∀ w ∈ wsX00, w ∈ wsX2_canGoOn := by decide +kernel
  have lp_13 : ∀ (v3 : Int32) (v4 : Int32), ∀ (n : Nat) (v5 : Int32) (p2 : Nat → Int32) (x : (Int32 × (Nat → Int32)) ⊕ (Nat → Int32)), on_loop (fun (s : Int32 × (Nat → Int32)) => B_X2_canGoOn_13 (M_X2_canGoOn d) v3 v4 p0_many p0_rows p1_many p1_rows s.1 s.2) n (v5, p2) = some x → (∀ u, x = Sum.inr u → ∀ (H : Heap) (locs : List Loc), va_P D vwCl [(h_p0, .inr (0, [.int p0_many, .ref h_p0_rows])), (h_p0_rows, .inl (cI, 7, .inl p0_rows)), (h_p1, .inr (0, [.int p1_many, .ref h_p1_rows])), (h_p1_rows, .inl (cI, 7, .inl p1_rows)), (h_p2, .inl (cI, 7, .inl u))] H → va_D A [(h_p0, .inr (0, [.int p0_many, .ref h_p0_rows])), (h_p0_rows, .inl (cI, 7, .inl p0_rows)), (h_p1, .inr (0, [.int p1_many, .ref h_p1_rows])), (h_p1_rows, .inl (cI, 7, .inl p1_rows)), (h_p2, .inl (cI, 7, .inl u))] → va_S A s.heap H locs → ∀ ls : Array Slot, lv_has ls 6 [] → W p l e (rm_X2_canGoOn (d + 1)) s m args below meth c H locs 0 0 Q (F0 m 76 ls [])) → (∀ o, x = Sum.inl o → o = out) → ∀ (H : Heap) (locs : List Loc), va_P D vwCl [(h_p0, .inr (0, [.int p0_many, .ref h_p0_rows])), (h_p0_rows, .inl (cI, 7, .inl p0_rows)), (h_p1, .inr (0, [.int p1_many, .ref h_p1_rows])), (h_p1_rows, .inl (cI, 7, .inl p1_rows)), (h_p2, .inl (cI, 7, .inl p2))] H → va_D A [(h_p0, .inr (0, [.int p0_many, .ref h_p0_rows])), (h_p0_rows, .inl (cI, 7, .inl p0_rows)), (h_p1, .inr (0, [.int p1_many, .ref h_p1_rows])), (h_p1_rows, .inl (cI, 7, .inl p1_rows)), (h_p2, .inl (cI, 7, .inl p2))] → va_S A s.heap H locs → ∀ ls : Array Slot, lv_has ls 6 [(0, .ref h_p0), (1, .ref h_p1), (2, .ref h_p2), (3, .int v3), (4, .int v4), (5, .int v5)] → W p l e (rm_X2_canGoOn (d + 1)) s m args below meth c H locs 0 0 Q (F0 m 13 ls []) := by
    intro v3 v4
    intro n
    induction n with
    | zero =>
      intro v5 p2 x hL
      exact (on_loop0 hL).elim
    | succ n ih =>
      intro v5 p2 x hL K1 K2 H locs hP hD hS ls hl
      obtain ⟨y, hM, hk⟩ := on_loopE hL
      have hM : B_X2_canGoOn_13 (M_X2_canGoOn d) v3 v4 p0_many p0_rows p1_many p1_rows v5 p2 = some y := hM
      unfold B_X2_canGoOn_13 at hM
      refine lv_iload hx hb dX2_canGoOn_13 (lv_at hl 5 rfl) ?_
      refine lv_aload_n hx hb dX2_canGoOn_15 rfl (lv_at hl 1 rfl) ?_
      refine va_getN (D := D) (ci := 0) (v := .int p1_many) (C := RX0) (T := TX0) (N := 2) hx hb hts w1 hown hK hP 2 rfl rfl 0 (by decide) (va_Nw.use rfl (hN _ (List.mem_of_getElem? (i := 3) rfl))) (fun _ h9 => h9) rfl dX2_canGoOn_16 ?_
      refine lv_icmp_ge (tgt := 76) hx hb dX2_canGoOn_19 (by decide) (fun c_2 => ?_) (fun c_2 => ?_)
      · have hM := on_pos c_2 hM
        have hk := on_nxR hM hk
        subst hk
        exact K1 _ rfl _ _ hP hD hS ls (lv_sub hl [] rfl)
      · have hM := on_neg c_2 hM
        refine lv_iload hx hb dX2_canGoOn_22 (lv_at hl 4 rfl) ?_
        refine lv_iload hx hb dX2_canGoOn_24 (lv_at hl 5 rfl) ?_
        refine lv_ishr hx hb dX2_canGoOn_26 ?_
        refine lv_iconst (v := 1) hx hb dX2_canGoOn_27 (by decide) ?_
        refine lv_iand hx hb dX2_canGoOn_28 ?_
        refine lv_if_ne (tgt := 70) hx hb dX2_canGoOn_29 (by decide) (fun c_3 => ?_) (fun c_3 => ?_)
        · have hM := on_neg c_3 hM
          obtain ⟨v5_4, ev5_4⟩ : ∃ z : Int32, z = v5 + 1 := ⟨_, rfl⟩
          have hM := on_letE ev5_4 hM
          refine lv_iinc (v := v5_4) (lv' := [(5, .int v5_4), (0, .ref h_p0), (1, .ref h_p1), (2, .ref h_p2), (3, .int v3), (4, .int v4)]) hx hb dX2_canGoOn_70 hl (k := 5) rfl (by rw [ev5_4]; rfl) (by decide) rfl (fun ls hl => ?_)
          refine lv_goto (tgt := 13) hx hb dX2_canGoOn_73 (by decide) ?_
          have hk := on_nxL hM hk
          exact ih v5_4 p2 _ hk K1 K2 _ _ hP hD hS ls (lv_sub hl [1, 2, 3, 4, 5, 0] rfl)
        · have hM := on_pos c_3 hM
          refine lv_aload_n hx hb dX2_canGoOn_32 rfl (lv_at hl 0 rfl) ?_
          refine lv_aload_n hx hb dX2_canGoOn_33 rfl (lv_at hl 1 rfl) ?_
          refine lv_aload_n hx hb dX2_canGoOn_34 rfl (lv_at hl 2 rfl) ?_
          refine lv_iload_n hx hb dX2_canGoOn_35 rfl (lv_at hl 3 rfl) ?_
          refine lv_iload hx hb dX2_canGoOn_36 (lv_at hl 5 rfl) ?_
          obtain ⟨q_5, hq_5, hM⟩ := on_bind hM
          refine on_callS (rest := []) (As := [.ref h_p0, .ref h_p1, .ref h_p2, .int v3, .int v5]) (st1 := [.int q_5]) (wc := [(h_p0, .inr (0, [.int p0_many, .ref h_p0_rows])), (h_p0_rows, .inl (cI, 7, .inl p0_rows)), (h_p1, .inr (0, [.int p1_many, .ref h_p1_rows])), (h_p1_rows, .inl (cI, 7, .inl p1_rows)), (h_p2, .inl (cI, 7, .inl p2))]) (wr := []) (wc' := [(h_p0, .inr (0, [.int p0_many, .ref h_p0_rows])), (h_p0_rows, .inl (cI, 7, .inl p0_rows)), (h_p1, .inr (0, [.int p1_many, .ref h_p1_rows])), (h_p1_rows, .inl (cI, 7, .inl p1_rows)), (h_p2, .inl (cI, 7, .inl p2))]) (wf := [(h_p0, .inr (0, [.int p0_many, .ref h_p0_rows])), (h_p0_rows, .inl (cI, 7, .inl p0_rows)), (h_p1, .inr (0, [.int p1_many, .ref h_p1_rows])), (h_p1_rows, .inl (cI, 7, .inl p1_rows)), (h_p2, .inl (cI, 7, .inl p2))]) (rt := (some (.int q_5))) ⟨hx, hb, hml, hown, hts⟩ (k_X2_goesTo h_p0 h_p0_rows h_p1 h_p1_rows h_p2 p0_many p0_rows p1_many p1_rows p2 v3 v5 q_5 hq_5) (va_cwS 5 hts gX2_canGoOn_X2_goesTo rfl rfl rfl hdX2_goesTo ⟨(on_le1 (Nat.le_of_ble_eq_true rfl)), (on_le1 (Nat.le_of_ble_eq_true rfl))⟩) hK hN hP hD hS hA [0, 1, 2, 3, 4] [] [0, 1, 2, 3, 4] rfl rfl rfl rfl (by decide) rfl rfl rfl hl.1 rfl (Nat.le_of_ble_eq_true rfl) rfl dX2_canGoOn_38 ⟨Nat.zero_le _, Nat.zero_le _⟩ (fun H locs hP hD hS => ?_)
          refine lv_if_eq (tgt := 70) hx hb dX2_canGoOn_41 (by decide) (fun c_6 => ?_) (fun c_6 => ?_)
          · have hM := on_pos c_6 hM
            obtain ⟨v5_7, ev5_7⟩ : ∃ z : Int32, z = v5 + 1 := ⟨_, rfl⟩
            have hM := on_letE ev5_7 hM
            refine lv_iinc (v := v5_7) (lv' := [(5, .int v5_7), (0, .ref h_p0), (1, .ref h_p1), (2, .ref h_p2), (3, .int v3), (4, .int v4)]) hx hb dX2_canGoOn_70 hl (k := 5) rfl (by rw [ev5_7]; rfl) (by decide) rfl (fun ls hl => ?_)
            refine lv_goto (tgt := 13) hx hb dX2_canGoOn_73 (by decide) ?_
            have hk := on_nxL hM hk
            exact ih v5_7 p2 _ hk K1 K2 _ _ hP hD hS ls (lv_sub hl [1, 2, 3, 4, 5, 0] rfl)
          · have hM := on_neg c_6 hM
            refine lv_aload_n hx hb dX2_canGoOn_44 rfl (lv_at hl 2 rfl) ?_
            refine lv_iload_n hx hb dX2_canGoOn_45 rfl (lv_at hl 3 rfl) ?_
            refine lv_iload hx hb dX2_canGoOn_46 (lv_at hl 5 rfl) ?_
            obtain ⟨g_8, hM⟩ := on_gdE hM
            refine va_iast hx hb hK hP hD hS 4 0 rfl rfl (on_ixE g_8) dX2_canGoOn_48 (fun H locs hP hD hS => ?_)
            have hP : va_P D vwCl [(h_p0, .inr (0, [.int p0_many, .ref h_p0_rows])), (h_p0_rows, .inl (cI, 7, .inl p0_rows)), (h_p1, .inr (0, [.int p1_many, .ref h_p1_rows])), (h_p1_rows, .inl (cI, 7, .inl p1_rows)), (h_p2, .inl (cI, 7, .inl (upd p2 (Int32.toNatClampNeg v3) v5)))] H := hP
            have hD : va_D A [(h_p0, .inr (0, [.int p0_many, .ref h_p0_rows])), (h_p0_rows, .inl (cI, 7, .inl p0_rows)), (h_p1, .inr (0, [.int p1_many, .ref h_p1_rows])), (h_p1_rows, .inl (cI, 7, .inl p1_rows)), (h_p2, .inl (cI, 7, .inl (upd p2 (Int32.toNatClampNeg v3) v5)))] := hD
            refine lv_aload_n hx hb dX2_canGoOn_49 rfl (lv_at hl 0 rfl) ?_
            refine lv_aload_n hx hb dX2_canGoOn_50 rfl (lv_at hl 1 rfl) ?_
            refine lv_aload_n hx hb dX2_canGoOn_51 rfl (lv_at hl 2 rfl) ?_
            refine lv_iload_n hx hb dX2_canGoOn_52 rfl (lv_at hl 3 rfl) ?_
            refine lv_iconst (v := 1) hx hb dX2_canGoOn_53 (by decide) ?_
            refine lv_iadd hx hb dX2_canGoOn_54 ?_
            refine lv_iload hx hb dX2_canGoOn_55 (lv_at hl 4 rfl) ?_
            refine lv_iconst (v := 1) hx hb dX2_canGoOn_57 (by decide) ?_
            refine lv_iload hx hb dX2_canGoOn_58 (lv_at hl 5 rfl) ?_
            refine lv_ishl hx hb dX2_canGoOn_60 ?_
            refine lv_ior hx hb dX2_canGoOn_61 ?_
            obtain ⟨q_9, hq_9, hM⟩ := on_bind hM
            refine on_callS (rest := []) (As := [.ref h_p0, .ref h_p1, .ref h_p2, .int (v3 + (1 : Int32)), .int (v4 ||| ((1 : Int32) <<< (v5 &&& 31)))]) (st1 := [.int q_9.1]) (wc := [(h_p0, .inr (0, [.int p0_many, .ref h_p0_rows])), (h_p0_rows, .inl (cI, 7, .inl p0_rows)), (h_p1, .inr (0, [.int p1_many, .ref h_p1_rows])), (h_p1_rows, .inl (cI, 7, .inl p1_rows)), (h_p2, .inl (cI, 7, .inl (upd p2 (Int32.toNatClampNeg v3) v5)))]) (wr := []) (wc' := [(h_p0, .inr (0, [.int p0_many, .ref h_p0_rows])), (h_p0_rows, .inl (cI, 7, .inl p0_rows)), (h_p1, .inr (0, [.int p1_many, .ref h_p1_rows])), (h_p1_rows, .inl (cI, 7, .inl p1_rows)), (h_p2, .inl (cI, 7, .inl q_9.2))]) (wf := [(h_p0, .inr (0, [.int p0_many, .ref h_p0_rows])), (h_p0_rows, .inl (cI, 7, .inl p0_rows)), (h_p1, .inr (0, [.int p1_many, .ref h_p1_rows])), (h_p1_rows, .inl (cI, 7, .inl p1_rows)), (h_p2, .inl (cI, 7, .inl q_9.2))]) (rt := (some (.int q_9.1))) ⟨hx, hb, hml, hown, hts⟩ (ihd h_p0 h_p0_rows h_p1 h_p1_rows h_p2 p0_many p0_rows p1_many p1_rows (upd p2 (Int32.toNatClampNeg v3) v5) (v3 + (1 : Int32)) (v4 ||| ((1 : Int32) <<< (v5 &&& 31))) q_9 hq_9) (va_cwS 5 hts gX2_canGoOn_X2_canGoOn rfl rfl rfl hdX2_canGoOn ⟨Nat.le_refl _, rrl_X2_canGoOn d⟩) hK hN hP hD hS hA [0, 1, 2, 3, 4] [] [0, 1, 2, 3, 4] rfl rfl rfl rfl (by decide) rfl rfl rfl hl.1 rfl (Nat.le_of_ble_eq_true rfl) rfl dX2_canGoOn_62 ⟨Nat.zero_le _, Nat.zero_le _⟩ (fun H locs hP hD hS => ?_)
            refine lv_if_eq (tgt := 70) hx hb dX2_canGoOn_65 (by decide) (fun c_10 => ?_) (fun c_10 => ?_)
            · have hM := on_pos c_10 hM
              obtain ⟨v5_11, ev5_11⟩ : ∃ z : Int32, z = v5 + 1 := ⟨_, rfl⟩
              have hM := on_letE ev5_11 hM
              refine lv_iinc (v := v5_11) (lv' := [(5, .int v5_11), (0, .ref h_p0), (1, .ref h_p1), (2, .ref h_p2), (3, .int v3), (4, .int v4)]) hx hb dX2_canGoOn_70 hl (k := 5) rfl (by rw [ev5_11]; rfl) (by decide) rfl (fun ls hl => ?_)
              refine lv_goto (tgt := 13) hx hb dX2_canGoOn_73 (by decide) ?_
              have hk := on_nxL hM hk
              exact ih v5_11 q_9.2 _ hk K1 K2 _ _ hP hD hS ls (lv_sub hl [1, 2, 3, 4, 5, 0] rfl)
            · have hM := on_neg c_10 hM
              refine lv_iconst (v := 1) hx hb dX2_canGoOn_68 (by decide) ?_
              have hk := on_nxR hM hk
              subst hk
              have ho := K2 _ rfl
              subst ho
              rw [← hQ]
              exact on_zret hx hb hr hlk hP hD hS rfl dX2_canGoOn_69
  refine lv_iload_n hx hb dX2_canGoOn_0 rfl (lv_at hl 3 rfl) ?_
  refine lv_aload_n hx hb dX2_canGoOn_1 rfl (lv_at hl 0 rfl) ?_
  refine va_getN (D := D) (ci := 0) (v := .int p0_many) (C := RX0) (T := TX0) (N := 2) hx hb hts w1 hown hK hP 0 rfl rfl 0 (by decide) (va_Nw.use rfl (hN _ (List.mem_of_getElem? (i := 3) rfl))) (fun _ h9 => h9) rfl dX2_canGoOn_2 ?_
  refine lv_icmp_lt (tgt := 10) hx hb dX2_canGoOn_5 (by decide) (fun c_1 => ?_) (fun c_1 => ?_)
  · have hM := on_pos c_1 hM
    refine lv_iconst (v := 0) hx hb dX2_canGoOn_10 (by decide) ?_
    refine lv_istore (lv' := [(5, .int (0 : Int32)), (0, .ref h_p0), (1, .ref h_p1), (2, .ref h_p2), (3, .int v3), (4, .int v4)]) hx hb dX2_canGoOn_11 hl (by decide) rfl (fun ls hl => ?_)
    obtain ⟨q_12, hq_12, hM⟩ := on_bind hM
    refine lp_13 v3 v4 on_F (0 : Int32) p2 q_12 hq_12 (fun u_13 hv H locs hP hD hS ls hl => ?_) (fun o ho => ?_) H locs hP hD hS ls (lv_sub hl [1, 2, 3, 4, 5, 0] rfl)
    · subst hv
      have hM := on_elR hM
      refine lv_iconst (v := 0) hx hb dX2_canGoOn_76 (by decide) ?_
      have hM := Option.some.inj hM
      subst hM
      rw [← hQ]
      exact on_zret hx hb hr hlk hP hD hS rfl dX2_canGoOn_77
    · subst ho
      have hM := on_elL hM
      exact Option.some.inj hM
  · have hM := on_neg c_1 hM
    refine lv_iconst (v := 1) hx hb dX2_canGoOn_8 (by decide) ?_
    have hM := Option.some.inj hM
    subst hM
    rw [← hQ]
    exact on_zret hx hb hr hlk hP hD hS rfl dX2_canGoOn_9
abbrev rm_X2_brings : Room := { frames := 13, cells := 0, slots := 0, locals := 316 }
set_option maxHeartbeats 4000000 in
set_option maxRecDepth 100000 in
theorem k_X2_brings {l : Launch} {D : va_G} {cI cJ cZ cS cA : ClassId} (h_t : Nat) (h_t_at : Nat) (h_p0 : Nat) (h_p0_rows : Nat) (h_p1 : Nat) (h_p1_rows : Nat) (t_at : Nat → Int32) (p0_many : Int32) (p0_rows : Nat → Int32) (p1_many : Int32) (p1_rows : Nat → Int32)  (out : Int32 × (Nat → Int32)) (hM : M_X2_brings t_at p0_many p0_rows p1_many p1_rows = some out) : on_Con l yX2_brings wsX2_brings rm_X2_brings [.ref h_t, .ref h_p0, .ref h_p1] D (on_T cI cJ cZ cS cA) [(h_t, .inr (2, [.ref h_t_at])), (h_t_at, .inl (cI, 7, .inl t_at)), (h_p0, .inr (0, [.int p0_many, .ref h_p0_rows])), (h_p0_rows, .inl (cI, 7, .inl p0_rows)), (h_p1, .inr (0, [.int p1_many, .ref h_p1_rows])), (h_p1_rows, .inl (cI, 7, .inl p1_rows))] (some (.int out.1)) [(h_t, .inr (2, [.ref h_t_at])), (h_t_at, .inl (cI, 7, .inl out.2)), (h_p0, .inr (0, [.int p0_many, .ref h_p0_rows])), (h_p0_rows, .inl (cI, 7, .inl p0_rows)), (h_p1, .inr (0, [.int p1_many, .ref h_p1_rows])), (h_p1_rows, .inl (cI, 7, .inl p1_rows))] := by
  unfold M_X2_brings at hM
  refine on_enter (cc := cX2_brings) (nL := 3) (rt := (some .boolean)) (own := RX2) (by decide +kernel) rfl rfl (Nat.le_of_ble_eq_true rfl) ?_
  intro p e s m below meth c A ls hx hb hml hr hlk hts hown hA hK hN H locs hP hD hS hl
  have hl : lv_has ls 3 [(0, .ref h_t), (1, .ref h_p0), (2, .ref h_p1)] := hl
  generalize hQ : MQ below (on_Q D (some (.int out.1)) [(h_t, .inr (2, [.ref h_t_at])), (h_t_at, .inl (cI, 7, .inl out.2)), (h_p0, .inr (0, [.int p0_many, .ref h_p0_rows])), (h_p0_rows, .inl (cI, 7, .inl p0_rows)), (h_p1, .inr (0, [.int p1_many, .ref h_p1_rows])), (h_p1_rows, .inl (cI, 7, .inl p1_rows))] A) _ s 0 0 A = Q
  generalize hAr : List.toArray ([.ref h_t, .ref h_p0, .ref h_p1] : List Value) = args at hts hQ ⊢
  have w1 := hts (.fieldLink RX2 9 "OddNets$Renumbering" "at" "[I") (by decide +kernel)
  have w2 : ∀ w ∈ wsX20, w ∈ wsX2_brings := by decide +kernel
  refine lv_aload_n hx hb dX2_brings_0 rfl (lv_at hl 1 rfl) ?_
  refine lv_aload_n hx hb dX2_brings_1 rfl (lv_at hl 2 rfl) ?_
  refine lv_aload_n hx hb dX2_brings_2 rfl (lv_at hl 0 rfl) ?_
  refine va_get (D := D) (ci := 2) (v := .ref h_t_at) (C := RX2) (T := TX2) (N := 1) hx hb hts w2 hown hK hP 0 rfl rfl 0 (by decide) w1 (fun _ h9 => h9) rfl dX2_brings_3 ?_
  refine lv_iconst (v := 0) hx hb dX2_brings_6 (by decide) ?_
  refine lv_iconst (v := 0) hx hb dX2_brings_7 (by decide) ?_
  obtain ⟨q_1, hq_1, hM⟩ := on_bind hM
  refine on_callS (rest := []) (As := [.ref h_p0, .ref h_p1, .ref h_t_at, .int (0 : Int32), .int (0 : Int32)]) (st1 := [.int q_1.1]) (wc := [(h_p0, .inr (0, [.int p0_many, .ref h_p0_rows])), (h_p0_rows, .inl (cI, 7, .inl p0_rows)), (h_p1, .inr (0, [.int p1_many, .ref h_p1_rows])), (h_p1_rows, .inl (cI, 7, .inl p1_rows)), (h_t_at, .inl (cI, 7, .inl t_at))]) (wr := [(h_t, .inr (2, [.ref h_t_at]))]) (wc' := [(h_p0, .inr (0, [.int p0_many, .ref h_p0_rows])), (h_p0_rows, .inl (cI, 7, .inl p0_rows)), (h_p1, .inr (0, [.int p1_many, .ref h_p1_rows])), (h_p1_rows, .inl (cI, 7, .inl p1_rows)), (h_t_at, .inl (cI, 7, .inl q_1.2))]) (wf := [(h_t, .inr (2, [.ref h_t_at])), (h_t_at, .inl (cI, 7, .inl q_1.2)), (h_p0, .inr (0, [.int p0_many, .ref h_p0_rows])), (h_p0_rows, .inl (cI, 7, .inl p0_rows)), (h_p1, .inr (0, [.int p1_many, .ref h_p1_rows])), (h_p1_rows, .inl (cI, 7, .inl p1_rows))]) (rt := (some (.int q_1.1))) ⟨hx, hb, hml, hown, hts⟩ (k_X2_canGoOn on_dep h_p0 h_p0_rows h_p1 h_p1_rows h_t_at p0_many p0_rows p1_many p1_rows t_at (0 : Int32) (0 : Int32) q_1 hq_1) (va_cwS 5 hts gX2_brings_X2_canGoOn rfl rfl rfl hdX2_canGoOn ⟨(Nat.le_of_ble_eq_true rfl), (Nat.le_of_ble_eq_true rfl)⟩) hK hN hP hD hS hA [2, 3, 4, 5, 1] [0] [0, 5, 1, 2, 3, 4] rfl rfl rfl rfl (by decide) rfl rfl rfl hl.1 rfl (Nat.le_of_ble_eq_true rfl) rfl dX2_brings_8 ⟨Nat.zero_le _, Nat.zero_le _⟩ (fun H locs hP hD hS => ?_)
  obtain ⟨g_2, hM⟩ := on_gdE hM
  have hM := Option.some.inj hM
  subst hM
  rw [← hQ]
  exact on_zret hx hb hr hlk hP hD hS g_2 dX2_brings_11
abbrev rm_X5_bringingSet : Room := { frames := 3, cells := 0, slots := 0, locals := 69 }
set_option maxHeartbeats 4000000 in
set_option maxRecDepth 100000 in
theorem k_X5_bringingSet {l : Launch} {D : va_G} {cI cJ cZ cS cA : ClassId} (h_t : Nat) (h_t_now : Nat) (h_t_images : Nat) (h_t_pad : Nat) (h_t_net : Nat) (h_t_second : Nat) (h_t_renumbering : Nat) (h_t_table : Nat) (h_t_marks : Nat) (h_t_now_numbers : Nat) (h_t_net_rows : Nat) (h_t_second_rows : Nat) (t_now_many : Int32) (t_now_numbers : Nat → Int32) (t_net_many : Int32) (t_net_rows : Nat → Int32) (t_second_many : Int32) (t_second_rows : Nat → Int32) (v1 : Int32) (v2 : Int32) (out : Int32 × Int32 × (Nat → Int32) × Int32 × (Nat → Int32)) (hM : M_X5_bringingSet v1 v2 t_now_many t_now_numbers t_net_rows t_second_rows = some out) : on_Con l yX5_bringingSet wsX5_bringingSet rm_X5_bringingSet [.ref h_t, .int v1, .int v2] D (on_T cI cJ cZ cS cA) [(h_t, .inr (5, [.ref h_t_now, .ref h_t_images, .ref h_t_pad, .ref h_t_net, .ref h_t_second, .ref h_t_renumbering, .ref h_t_table, .ref h_t_marks])), (h_t_now, .inr (3, [.int t_now_many, .ref h_t_now_numbers])), (h_t_now_numbers, .inl (cI, 3, .inl t_now_numbers)), (h_t_net, .inr (0, [.int t_net_many, .ref h_t_net_rows])), (h_t_net_rows, .inl (cI, 7, .inl t_net_rows)), (h_t_second, .inr (0, [.int t_second_many, .ref h_t_second_rows])), (h_t_second_rows, .inl (cI, 7, .inl t_second_rows))] (some (.int out.1)) [(h_t, .inr (5, [.ref h_t_now, .ref h_t_images, .ref h_t_pad, .ref h_t_net, .ref h_t_second, .ref h_t_renumbering, .ref h_t_table, .ref h_t_marks])), (h_t_now, .inr (3, [.int t_now_many, .ref h_t_now_numbers])), (h_t_now_numbers, .inl (cI, 3, .inl t_now_numbers)), (h_t_net, .inr (0, [.int out.2.1, .ref h_t_net_rows])), (h_t_net_rows, .inl (cI, 7, .inl out.2.2.1)), (h_t_second, .inr (0, [.int out.2.2.2.1, .ref h_t_second_rows])), (h_t_second_rows, .inl (cI, 7, .inl out.2.2.2.2))] := by
  unfold M_X5_bringingSet at hM
  refine on_enter (cc := cX5_bringingSet) (nL := 4) (rt := (some .int)) (own := RX5) (by decide +kernel) rfl rfl (Nat.le_of_ble_eq_true rfl) ?_
  intro p e s m below meth c A ls hx hb hml hr hlk hts hown hA hK hN H locs hP hD hS hl
  have hl : lv_has ls 4 [(0, .ref h_t), (1, .int v1), (2, .int v2)] := hl
  generalize hQ : MQ below (on_Q D (some (.int out.1)) [(h_t, .inr (5, [.ref h_t_now, .ref h_t_images, .ref h_t_pad, .ref h_t_net, .ref h_t_second, .ref h_t_renumbering, .ref h_t_table, .ref h_t_marks])), (h_t_now, .inr (3, [.int t_now_many, .ref h_t_now_numbers])), (h_t_now_numbers, .inl (cI, 3, .inl t_now_numbers)), (h_t_net, .inr (0, [.int out.2.1, .ref h_t_net_rows])), (h_t_net_rows, .inl (cI, 7, .inl out.2.2.1)), (h_t_second, .inr (0, [.int out.2.2.2.1, .ref h_t_second_rows])), (h_t_second_rows, .inl (cI, 7, .inl out.2.2.2.2))] A) _ s 0 0 A = Q
  generalize hAr : List.toArray ([.ref h_t, .int v1, .int v2] : List Value) = args at hts hQ ⊢
  have w1 := hts (.fieldLink RX5 30 "OddNets" "net" "LOddNets$Net;") (by decide +kernel)
  have w2 : ∀ w ∈ wsX50, w ∈ wsX5_bringingSet := by decide +kernel
  have w3 := hts (.fieldLink RX5 34 "OddNets" "second" "LOddNets$Net;") (by decide +kernel)
  have w4 : ∀ w ∈ wsX00, w ∈ wsX5_bringingSet := by decide +kernel
  have w5 := hts (.initialized RX0) (by decide +kernel)
  have w6 := hts (.instanceMethod yX0_switchBy) (by decide +kernel)
  have w7 := hts (.selects RX0 yX0_switchBy yX0_switchBy) (by decide +kernel)
  have w8 := hts (.instanceMethod yX0_number) (by decide +kernel)
  have w9 := hts (.selects RX0 yX0_number yX0_number) (by decide +kernel)
  refine lv_aload_n hx hb dX5_bringingSet_0 rfl (lv_at hl 0 rfl) ?_
  refine lv_aload_n hx hb dX5_bringingSet_1 rfl (lv_at hl 0 rfl) ?_
  refine va_get (D := D) (ci := 5) (v := .ref h_t_net) (C := RX5) (T := TX5) (N := 8) hx hb hts w2 hown hK hP 0 rfl rfl 3 (by decide) w1 (fun _ h9 => h9) rfl dX5_bringingSet_2 ?_
  refine lv_iload_n hx hb dX5_bringingSet_5 rfl (lv_at hl 1 rfl) ?_
  obtain ⟨q_1, hq_1, hM⟩ := on_bind hM
  refine on_callV (rest := []) (As := [.ref h_t_net, .int v1]) (st1 := []) (C := RX5) (ci := 5) (q0 := 0) (wc := [(h_t, .inr (5, [.ref h_t_now, .ref h_t_images, .ref h_t_pad, .ref h_t_net, .ref h_t_second, .ref h_t_renumbering, .ref h_t_table, .ref h_t_marks])), (h_t_now, .inr (3, [.int t_now_many, .ref h_t_now_numbers])), (h_t_now_numbers, .inl (cI, 3, .inl t_now_numbers)), (h_t_net, .inr (0, [.int t_net_many, .ref h_t_net_rows])), (h_t_net_rows, .inl (cI, 7, .inl t_net_rows))]) (wr := [(h_t_second, .inr (0, [.int t_second_many, .ref h_t_second_rows])), (h_t_second_rows, .inl (cI, 7, .inl t_second_rows))]) (wc' := [(h_t, .inr (5, [.ref h_t_now, .ref h_t_images, .ref h_t_pad, .ref h_t_net, .ref h_t_second, .ref h_t_renumbering, .ref h_t_table, .ref h_t_marks])), (h_t_now, .inr (3, [.int t_now_many, .ref h_t_now_numbers])), (h_t_now_numbers, .inl (cI, 3, .inl t_now_numbers)), (h_t_net, .inr (0, [.int q_1.1, .ref h_t_net_rows])), (h_t_net_rows, .inl (cI, 7, .inl q_1.2))]) (wf := [(h_t, .inr (5, [.ref h_t_now, .ref h_t_images, .ref h_t_pad, .ref h_t_net, .ref h_t_second, .ref h_t_renumbering, .ref h_t_table, .ref h_t_marks])), (h_t_now, .inr (3, [.int t_now_many, .ref h_t_now_numbers])), (h_t_now_numbers, .inl (cI, 3, .inl t_now_numbers)), (h_t_net, .inr (0, [.int q_1.1, .ref h_t_net_rows])), (h_t_net_rows, .inl (cI, 7, .inl q_1.2)), (h_t_second, .inr (0, [.int t_second_many, .ref h_t_second_rows])), (h_t_second_rows, .inl (cI, 7, .inl t_second_rows))]) (rt := none) ⟨hx, hb, hml, hown, hts⟩ (k_X5_load h_t h_t_now h_t_images h_t_pad h_t_net h_t_second h_t_renumbering h_t_table h_t_marks h_t_now_numbers h_t_net h_t_net_rows t_now_many t_now_numbers t_net_many t_net_rows v1 q_1 hq_1) (cwV 2 hts gX5_bringingSet_X5_load rfl rfl rfl ⟨rfl, hdX5_load⟩ ⟨(Nat.le_of_ble_eq_true rfl), (Nat.le_of_ble_eq_true rfl)⟩) hK hN hP hD hS hA [0, 1, 2, 3, 4] [5, 6] [2, 3, 4, 5, 6, 0, 1] rfl rfl rfl rfl (by decide) rfl rfl rfl rfl rfl rfl hl.1 rfl (Nat.le_of_ble_eq_true rfl) rfl dX5_bringingSet_6 ⟨Nat.zero_le _, Nat.zero_le _⟩ (fun H locs hP hD hS => ?_)
  refine lv_aload_n hx hb dX5_bringingSet_9 rfl (lv_at hl 0 rfl) ?_
  refine lv_aload_n hx hb dX5_bringingSet_10 rfl (lv_at hl 0 rfl) ?_
  refine va_get (D := D) (ci := 5) (v := .ref h_t_second) (C := RX5) (T := TX5) (N := 8) hx hb hts w2 hown hK hP 0 rfl rfl 4 (by decide) w3 (fun _ h9 => h9) rfl dX5_bringingSet_11 ?_
  refine lv_iload_n hx hb dX5_bringingSet_14 rfl (lv_at hl 2 rfl) ?_
  obtain ⟨q_2, hq_2, hM⟩ := on_bind hM
  refine on_callV (rest := []) (As := [.ref h_t_second, .int v2]) (st1 := []) (C := RX5) (ci := 5) (q0 := 0) (wc := [(h_t, .inr (5, [.ref h_t_now, .ref h_t_images, .ref h_t_pad, .ref h_t_net, .ref h_t_second, .ref h_t_renumbering, .ref h_t_table, .ref h_t_marks])), (h_t_now, .inr (3, [.int t_now_many, .ref h_t_now_numbers])), (h_t_now_numbers, .inl (cI, 3, .inl t_now_numbers)), (h_t_second, .inr (0, [.int t_second_many, .ref h_t_second_rows])), (h_t_second_rows, .inl (cI, 7, .inl t_second_rows))]) (wr := [(h_t_net, .inr (0, [.int q_1.1, .ref h_t_net_rows])), (h_t_net_rows, .inl (cI, 7, .inl q_1.2))]) (wc' := [(h_t, .inr (5, [.ref h_t_now, .ref h_t_images, .ref h_t_pad, .ref h_t_net, .ref h_t_second, .ref h_t_renumbering, .ref h_t_table, .ref h_t_marks])), (h_t_now, .inr (3, [.int t_now_many, .ref h_t_now_numbers])), (h_t_now_numbers, .inl (cI, 3, .inl t_now_numbers)), (h_t_second, .inr (0, [.int q_2.1, .ref h_t_second_rows])), (h_t_second_rows, .inl (cI, 7, .inl q_2.2))]) (wf := [(h_t, .inr (5, [.ref h_t_now, .ref h_t_images, .ref h_t_pad, .ref h_t_net, .ref h_t_second, .ref h_t_renumbering, .ref h_t_table, .ref h_t_marks])), (h_t_now, .inr (3, [.int t_now_many, .ref h_t_now_numbers])), (h_t_now_numbers, .inl (cI, 3, .inl t_now_numbers)), (h_t_net, .inr (0, [.int q_1.1, .ref h_t_net_rows])), (h_t_net_rows, .inl (cI, 7, .inl q_1.2)), (h_t_second, .inr (0, [.int q_2.1, .ref h_t_second_rows])), (h_t_second_rows, .inl (cI, 7, .inl q_2.2))]) (rt := none) ⟨hx, hb, hml, hown, hts⟩ (k_X5_load h_t h_t_now h_t_images h_t_pad h_t_net h_t_second h_t_renumbering h_t_table h_t_marks h_t_now_numbers h_t_second h_t_second_rows t_now_many t_now_numbers t_second_many t_second_rows v2 q_2 hq_2) (cwV 2 hts gX5_bringingSet_X5_load rfl rfl rfl ⟨rfl, hdX5_load⟩ ⟨(Nat.le_of_ble_eq_true rfl), (Nat.le_of_ble_eq_true rfl)⟩) hK hN hP hD hS hA [0, 1, 2, 5, 6] [3, 4] [2, 3, 4, 0, 1, 5, 6] rfl rfl rfl rfl (by decide) rfl rfl rfl rfl rfl rfl hl.1 rfl (Nat.le_of_ble_eq_true rfl) rfl dX5_bringingSet_15 ⟨Nat.zero_le _, Nat.zero_le _⟩ (fun H locs hP hD hS => ?_)
  refine lv_aload_n hx hb dX5_bringingSet_18 rfl (lv_at hl 0 rfl) ?_
  refine va_get (D := D) (ci := 5) (v := .ref h_t_net) (C := RX5) (T := TX5) (N := 8) hx hb hts w2 hown hK hP 0 rfl rfl 3 (by decide) w1 (fun _ h9 => h9) rfl dX5_bringingSet_19 ?_
  refine va_getN (D := D) (ci := 0) (v := .ref h_t_net_rows) (C := RX0) (T := TX0) (N := 2) hx hb hts w4 hown hK hP 3 rfl rfl 1 (by decide) (va_Nw.use rfl (hN _ (List.mem_of_getElem? (i := 7) rfl))) (fun _ h9 => h9) rfl dX5_bringingSet_22 ?_
  refine lv_iconst (v := 0) hx hb dX5_bringingSet_25 (by decide) ?_
  obtain ⟨g_3, hM⟩ := on_gdE hM
  refine va_iald hx hb hK hP 4 0 rfl rfl (on_ixE g_3) dX5_bringingSet_26 ?_
  refine lv_aload_n hx hb dX5_bringingSet_27 rfl (lv_at hl 0 rfl) ?_
  refine va_get (D := D) (ci := 5) (v := .ref h_t_second) (C := RX5) (T := TX5) (N := 8) hx hb hts w2 hown hK hP 0 rfl rfl 4 (by decide) w3 (fun _ h9 => h9) rfl dX5_bringingSet_28 ?_
  refine va_getN (D := D) (ci := 0) (v := .ref h_t_second_rows) (C := RX0) (T := TX0) (N := 2) hx hb hts w4 hown hK hP 5 rfl rfl 1 (by decide) (va_Nw.use rfl (hN _ (List.mem_of_getElem? (i := 7) rfl))) (fun _ h9 => h9) rfl dX5_bringingSet_31 ?_
  refine lv_iconst (v := 0) hx hb dX5_bringingSet_34 (by decide) ?_
  obtain ⟨g_4, hM⟩ := on_gdE hM
  refine va_iald hx hb hK hP 6 0 rfl rfl (on_ixE g_4) dX5_bringingSet_35 ?_
  refine lv_ixor hx hb dX5_bringingSet_36 ?_
  refine lv_topi (fun v3_5 ev3_5 => ?_)
  have hM := on_letE ev3_5 hM
  refine lv_istore_n (lv' := [(3, .int v3_5), (0, .ref h_t), (1, .int v1), (2, .int v2)]) hx hb dX5_bringingSet_37 rfl hl (by decide) rfl (fun ls hl => ?_)
  refine lv_aload_n hx hb dX5_bringingSet_38 rfl (lv_at hl 1 rfl) ?_
  refine va_get (D := D) (ci := 5) (v := .ref h_t_net) (C := RX5) (T := TX5) (N := 8) hx hb hts w2 hown hK hP 0 rfl rfl 3 (by decide) w1 (fun _ h9 => h9) rfl dX5_bringingSet_39 ?_
  refine lv_iload_n hx hb dX5_bringingSet_42 rfl (lv_at hl 0 rfl) ?_
  obtain ⟨q_6, hq_6, hM⟩ := on_bind hM
  refine on_callVN (rest := []) (As := [.int v3_5]) (st1 := []) (C := RX0) (ci := 0) (q0 := 3) (wc := [(h_t_net, .inr (0, [.int q_1.1, .ref h_t_net_rows])), (h_t_net_rows, .inl (cI, 7, .inl q_1.2))]) (wr := [(h_t, .inr (5, [.ref h_t_now, .ref h_t_images, .ref h_t_pad, .ref h_t_net, .ref h_t_second, .ref h_t_renumbering, .ref h_t_table, .ref h_t_marks])), (h_t_now, .inr (3, [.int t_now_many, .ref h_t_now_numbers])), (h_t_now_numbers, .inl (cI, 3, .inl t_now_numbers)), (h_t_second, .inr (0, [.int q_2.1, .ref h_t_second_rows])), (h_t_second_rows, .inl (cI, 7, .inl q_2.2))]) (wc' := [(h_t_net, .inr (0, [.int q_1.1, .ref h_t_net_rows])), (h_t_net_rows, .inl (cI, 7, .inl q_6))]) (wf := [(h_t, .inr (5, [.ref h_t_now, .ref h_t_images, .ref h_t_pad, .ref h_t_net, .ref h_t_second, .ref h_t_renumbering, .ref h_t_table, .ref h_t_marks])), (h_t_now, .inr (3, [.int t_now_many, .ref h_t_now_numbers])), (h_t_now_numbers, .inl (cI, 3, .inl t_now_numbers)), (h_t_net, .inr (0, [.int q_1.1, .ref h_t_net_rows])), (h_t_net_rows, .inl (cI, 7, .inl q_6)), (h_t_second, .inr (0, [.int q_2.1, .ref h_t_second_rows])), (h_t_second_rows, .inl (cI, 7, .inl q_2.2))]) (rt := none) ⟨hx, hb, hml, hown, hts⟩ (k_X0_switchBy h_t_net h_t_net_rows q_1.1 q_1.2 v3_5 q_6 hq_6) ⟨va_cnB 1 hts gX5_bringingSet_X0_switchBy_n117 rfl rfl rfl (hN _ (List.mem_of_getElem? (i := 26) rfl)) w5 hdX0_switchBy ⟨(Nat.le_of_ble_eq_true rfl), (Nat.le_of_ble_eq_true rfl)⟩, w6, w7⟩ hK hN hP hD hS hA [3, 4] [0, 1, 2, 5, 6] [0, 1, 2, 5, 6, 3, 4] rfl rfl rfl rfl (by decide) rfl rfl rfl rfl rfl rfl hl.1 rfl (Nat.le_of_ble_eq_true rfl) rfl dX5_bringingSet_43 ⟨Nat.zero_le _, Nat.zero_le _⟩ (fun H locs hP hD hS => ?_)
  refine lv_aload_n hx hb dX5_bringingSet_46 rfl (lv_at hl 1 rfl) ?_
  refine va_get (D := D) (ci := 5) (v := .ref h_t_net) (C := RX5) (T := TX5) (N := 8) hx hb hts w2 hown hK hP 0 rfl rfl 3 (by decide) w1 (fun _ h9 => h9) rfl dX5_bringingSet_47 ?_
  obtain ⟨q_7, hq_7, hM⟩ := on_bind hM
  refine on_callVN (rest := []) (As := []) (st1 := [.int q_7]) (C := RX0) (ci := 0) (q0 := 3) (wc := [(h_t_net, .inr (0, [.int q_1.1, .ref h_t_net_rows])), (h_t_net_rows, .inl (cI, 7, .inl q_6))]) (wr := [(h_t, .inr (5, [.ref h_t_now, .ref h_t_images, .ref h_t_pad, .ref h_t_net, .ref h_t_second, .ref h_t_renumbering, .ref h_t_table, .ref h_t_marks])), (h_t_now, .inr (3, [.int t_now_many, .ref h_t_now_numbers])), (h_t_now_numbers, .inl (cI, 3, .inl t_now_numbers)), (h_t_second, .inr (0, [.int q_2.1, .ref h_t_second_rows])), (h_t_second_rows, .inl (cI, 7, .inl q_2.2))]) (wc' := [(h_t_net, .inr (0, [.int q_1.1, .ref h_t_net_rows])), (h_t_net_rows, .inl (cI, 7, .inl q_6))]) (wf := [(h_t, .inr (5, [.ref h_t_now, .ref h_t_images, .ref h_t_pad, .ref h_t_net, .ref h_t_second, .ref h_t_renumbering, .ref h_t_table, .ref h_t_marks])), (h_t_now, .inr (3, [.int t_now_many, .ref h_t_now_numbers])), (h_t_now_numbers, .inl (cI, 3, .inl t_now_numbers)), (h_t_net, .inr (0, [.int q_1.1, .ref h_t_net_rows])), (h_t_net_rows, .inl (cI, 7, .inl q_6)), (h_t_second, .inr (0, [.int q_2.1, .ref h_t_second_rows])), (h_t_second_rows, .inl (cI, 7, .inl q_2.2))]) (rt := (some (.int q_7))) ⟨hx, hb, hml, hown, hts⟩ (k_X0_number h_t_net h_t_net_rows q_1.1 q_6 q_7 hq_7) ⟨va_cnB 0 hts gX5_bringingSet_X0_number_n85 rfl rfl rfl (hN _ (List.mem_of_getElem? (i := 19) rfl)) w5 hdX0_number ⟨(Nat.le_of_ble_eq_true rfl), (Nat.le_of_ble_eq_true rfl)⟩, w8, w9⟩ hK hN hP hD hS hA [3, 4] [0, 1, 2, 5, 6] [0, 1, 2, 5, 6, 3, 4] rfl rfl rfl rfl (by decide) rfl rfl rfl rfl rfl rfl hl.1 rfl (Nat.le_of_ble_eq_true rfl) rfl dX5_bringingSet_50 ⟨Nat.zero_le _, Nat.zero_le _⟩ (fun H locs hP hD hS => ?_)
  refine lv_aload_n hx hb dX5_bringingSet_53 rfl (lv_at hl 1 rfl) ?_
  refine va_get (D := D) (ci := 5) (v := .ref h_t_second) (C := RX5) (T := TX5) (N := 8) hx hb hts w2 hown hK hP 0 rfl rfl 4 (by decide) w3 (fun _ h9 => h9) rfl dX5_bringingSet_54 ?_
  obtain ⟨q_8, hq_8, hM⟩ := on_bind hM
  refine on_callVN (rest := [.int q_7]) (As := []) (st1 := [.int q_8, .int q_7]) (C := RX0) (ci := 0) (q0 := 5) (wc := [(h_t_second, .inr (0, [.int q_2.1, .ref h_t_second_rows])), (h_t_second_rows, .inl (cI, 7, .inl q_2.2))]) (wr := [(h_t, .inr (5, [.ref h_t_now, .ref h_t_images, .ref h_t_pad, .ref h_t_net, .ref h_t_second, .ref h_t_renumbering, .ref h_t_table, .ref h_t_marks])), (h_t_now, .inr (3, [.int t_now_many, .ref h_t_now_numbers])), (h_t_now_numbers, .inl (cI, 3, .inl t_now_numbers)), (h_t_net, .inr (0, [.int q_1.1, .ref h_t_net_rows])), (h_t_net_rows, .inl (cI, 7, .inl q_6))]) (wc' := [(h_t_second, .inr (0, [.int q_2.1, .ref h_t_second_rows])), (h_t_second_rows, .inl (cI, 7, .inl q_2.2))]) (wf := [(h_t, .inr (5, [.ref h_t_now, .ref h_t_images, .ref h_t_pad, .ref h_t_net, .ref h_t_second, .ref h_t_renumbering, .ref h_t_table, .ref h_t_marks])), (h_t_now, .inr (3, [.int t_now_many, .ref h_t_now_numbers])), (h_t_now_numbers, .inl (cI, 3, .inl t_now_numbers)), (h_t_net, .inr (0, [.int q_1.1, .ref h_t_net_rows])), (h_t_net_rows, .inl (cI, 7, .inl q_6)), (h_t_second, .inr (0, [.int q_2.1, .ref h_t_second_rows])), (h_t_second_rows, .inl (cI, 7, .inl q_2.2))]) (rt := (some (.int q_8))) ⟨hx, hb, hml, hown, hts⟩ (k_X0_number h_t_second h_t_second_rows q_2.1 q_2.2 q_8 hq_8) ⟨va_cnB 0 hts gX5_bringingSet_X0_number_n85 rfl rfl rfl (hN _ (List.mem_of_getElem? (i := 19) rfl)) w5 hdX0_number ⟨(Nat.le_of_ble_eq_true rfl), (Nat.le_of_ble_eq_true rfl)⟩, w8, w9⟩ hK hN hP hD hS hA [5, 6] [0, 1, 2, 3, 4] [0, 1, 2, 3, 4, 5, 6] rfl rfl rfl rfl (by decide) rfl rfl rfl rfl rfl rfl hl.1 rfl (Nat.le_of_ble_eq_true rfl) rfl dX5_bringingSet_57 ⟨Nat.zero_le _, Nat.zero_le _⟩ (fun H locs hP hD hS => ?_)
  refine lv_icmp_ne (tgt := 67) hx hb dX5_bringingSet_60 (by decide) (fun c_9 => ?_) (fun c_9 => ?_)
  · have hM := on_neg c_9 hM
    refine lv_bipush (v := -6) hx hb dX5_bringingSet_67 (by decide) ?_
    have hM := Option.some.inj hM
    subst hM
    rw [← hQ]
    exact on_iret hx hb hr hlk hP hD hS dX5_bringingSet_69
  · have hM := on_pos c_9 hM
    refine lv_iload_n hx hb dX5_bringingSet_63 rfl (lv_at hl 0 rfl) ?_
    refine lv_goto (tgt := 69) hx hb dX5_bringingSet_64 (by decide) ?_
    have hM := Option.some.inj hM
    subst hM
    rw [← hQ]
    exact on_iret hx hb hr hlk hP hD hS dX5_bringingSet_69
abbrev rm_X5_compare : Room := { frames := 14, cells := 0, slots := 0, locals := 374 }
set_option maxHeartbeats 4000000 in
set_option maxRecDepth 100000 in
theorem k_X5_compare {l : Launch} {D : va_G} {cI cJ cZ cS cA : ClassId} (h_t : Nat) (h_t_now : Nat) (h_t_images : Nat) (h_t_pad : Nat) (h_t_net : Nat) (h_t_second : Nat) (h_t_renumbering : Nat) (h_t_table : Nat) (h_t_marks : Nat) (h_t_now_numbers : Nat) (h_t_net_rows : Nat) (h_t_second_rows : Nat) (h_t_renumbering_at : Nat) (t_now_many : Int32) (t_now_numbers : Nat → Int32) (t_net_many : Int32) (t_net_rows : Nat → Int32) (t_second_many : Int32) (t_second_rows : Nat → Int32) (t_renumbering_at : Nat → Int32) (v1 : Int32) (v2 : Int32) (v3 : Int32) (out : Int32 × Int32 × (Nat → Int32) × Int32 × (Nat → Int32) × (Nat → Int32)) (hM : M_X5_compare v1 v2 v3 t_now_many t_now_numbers t_net_many t_net_rows t_second_many t_second_rows t_renumbering_at = some out) : on_Con l yX5_compare wsX5_compare rm_X5_compare [.ref h_t, .int v1, .int v2, .int v3] D (on_T cI cJ cZ cS cA) [(h_t, .inr (5, [.ref h_t_now, .ref h_t_images, .ref h_t_pad, .ref h_t_net, .ref h_t_second, .ref h_t_renumbering, .ref h_t_table, .ref h_t_marks])), (h_t_now, .inr (3, [.int t_now_many, .ref h_t_now_numbers])), (h_t_now_numbers, .inl (cI, 3, .inl t_now_numbers)), (h_t_net, .inr (0, [.int t_net_many, .ref h_t_net_rows])), (h_t_net_rows, .inl (cI, 7, .inl t_net_rows)), (h_t_second, .inr (0, [.int t_second_many, .ref h_t_second_rows])), (h_t_second_rows, .inl (cI, 7, .inl t_second_rows)), (h_t_renumbering, .inr (2, [.ref h_t_renumbering_at])), (h_t_renumbering_at, .inl (cI, 7, .inl t_renumbering_at))] (some (.int out.1)) [(h_t, .inr (5, [.ref h_t_now, .ref h_t_images, .ref h_t_pad, .ref h_t_net, .ref h_t_second, .ref h_t_renumbering, .ref h_t_table, .ref h_t_marks])), (h_t_now, .inr (3, [.int t_now_many, .ref h_t_now_numbers])), (h_t_now_numbers, .inl (cI, 3, .inl t_now_numbers)), (h_t_net, .inr (0, [.int out.2.1, .ref h_t_net_rows])), (h_t_net_rows, .inl (cI, 7, .inl out.2.2.1)), (h_t_second, .inr (0, [.int out.2.2.2.1, .ref h_t_second_rows])), (h_t_second_rows, .inl (cI, 7, .inl out.2.2.2.2.1)), (h_t_renumbering, .inr (2, [.ref h_t_renumbering_at])), (h_t_renumbering_at, .inl (cI, 7, .inl out.2.2.2.2.2))] := by
  unfold M_X5_compare at hM
  refine on_enter (cc := cX5_compare) (nL := 4) (rt := (some .int)) (own := RX5) (by decide +kernel) rfl rfl (Nat.le_of_ble_eq_true rfl) ?_
  intro p e s m below meth c A ls hx hb hml hr hlk hts hown hA hK hN H locs hP hD hS hl
  have hl : lv_has ls 4 [(0, .ref h_t), (1, .int v1), (2, .int v2), (3, .int v3)] := hl
  generalize hQ : MQ below (on_Q D (some (.int out.1)) [(h_t, .inr (5, [.ref h_t_now, .ref h_t_images, .ref h_t_pad, .ref h_t_net, .ref h_t_second, .ref h_t_renumbering, .ref h_t_table, .ref h_t_marks])), (h_t_now, .inr (3, [.int t_now_many, .ref h_t_now_numbers])), (h_t_now_numbers, .inl (cI, 3, .inl t_now_numbers)), (h_t_net, .inr (0, [.int out.2.1, .ref h_t_net_rows])), (h_t_net_rows, .inl (cI, 7, .inl out.2.2.1)), (h_t_second, .inr (0, [.int out.2.2.2.1, .ref h_t_second_rows])), (h_t_second_rows, .inl (cI, 7, .inl out.2.2.2.2.1)), (h_t_renumbering, .inr (2, [.ref h_t_renumbering_at])), (h_t_renumbering_at, .inl (cI, 7, .inl out.2.2.2.2.2))] A) _ s 0 0 A = Q
  generalize hAr : List.toArray ([.ref h_t, .int v1, .int v2, .int v3] : List Value) = args at hts hQ ⊢
  have w1 := hts (.fieldLink RX5 30 "OddNets" "net" "LOddNets$Net;") (by decide +kernel)
  have w2 : ∀ w ∈ wsX50, w ∈ wsX5_compare := by decide +kernel
  have w3 := hts (.fieldLink RX5 34 "OddNets" "second" "LOddNets$Net;") (by decide +kernel)
  have w4 := hts (.fieldLink RX5 40 "OddNets" "renumbering" "LOddNets$Renumbering;") (by decide +kernel)
  have w5 := hts (.initialized RX2) (by decide +kernel)
  have w6 := hts (.instanceMethod yX2_brings) (by decide +kernel)
  have w7 := hts (.selects RX2 yX2_brings yX2_brings) (by decide +kernel)
  refine lv_iload_n hx hb dX5_compare_0 rfl (lv_at hl 1 rfl) ?_
  obtain ⟨q_1, hq_1, hM⟩ := on_bind hM
  refine on_callS0 (rest := []) (As := [.int v1]) (st1 := [.int q_1]) ⟨hx, hb, hml, hown, hts⟩ (k_X5_isSlot v1 q_1 hq_1) (va_cwS 1 hts gX5_compare_X5_isSlot rfl rfl rfl hdX5_isSlot ⟨(Nat.le_of_ble_eq_true rfl), (Nat.le_of_ble_eq_true rfl)⟩) hK hN hP hD hS hA rfl hl.1 rfl (Nat.le_of_ble_eq_true rfl) rfl dX5_compare_1 ⟨Nat.zero_le _, Nat.zero_le _⟩ (fun H locs hP hS => ?_)
  refine lv_if_eq (tgt := 14) hx hb dX5_compare_4 (by decide) (fun c_2 => ?_) (fun c_2 => ?_)
  · have hM := on_pos c_2 hM
    refine lv_iconst (v := -1) hx hb dX5_compare_14 (by decide) ?_
    have hM := Option.some.inj hM
    subst hM
    rw [← hQ]
    exact on_iret hx hb hr hlk hP hD hS dX5_compare_15
  · have hM := on_neg c_2 hM
    refine lv_iload_n hx hb dX5_compare_7 rfl (lv_at hl 2 rfl) ?_
    obtain ⟨q_3, hq_3, hM⟩ := on_bind hM
    refine on_callS0 (rest := []) (As := [.int v2]) (st1 := [.int q_3]) ⟨hx, hb, hml, hown, hts⟩ (k_X5_isSlot v2 q_3 hq_3) (va_cwS 1 hts gX5_compare_X5_isSlot rfl rfl rfl hdX5_isSlot ⟨(Nat.le_of_ble_eq_true rfl), (Nat.le_of_ble_eq_true rfl)⟩) hK hN hP hD hS hA rfl hl.1 rfl (Nat.le_of_ble_eq_true rfl) rfl dX5_compare_8 ⟨Nat.zero_le _, Nat.zero_le _⟩ (fun H locs hP hS => ?_)
    refine lv_if_ne (tgt := 16) hx hb dX5_compare_11 (by decide) (fun c_4 => ?_) (fun c_4 => ?_)
    · have hM := on_neg c_4 hM
      refine lv_iload_n hx hb dX5_compare_16 rfl (lv_at hl 3 rfl) ?_
      by_cases c_15 : v3 = 0
      · have hM := on_pos c_15 hM
        refine lv_tableIn (tgt := 48) hx hb dX5_compare_17 (by rw [c_15]; decide) (by rw [c_15]; decide) (by rw [c_15]; rfl) (by decide) ?_
        refine lv_aload_n hx hb dX5_compare_48 rfl (lv_at hl 0 rfl) ?_
        refine lv_iload_n hx hb dX5_compare_49 rfl (lv_at hl 1 rfl) ?_
        refine lv_iload_n hx hb dX5_compare_50 rfl (lv_at hl 2 rfl) ?_
        obtain ⟨q_5, hq_5, hM⟩ := on_bind hM
        refine on_callV (rest := []) (As := [.int v1, .int v2]) (st1 := [.int q_5.1]) (C := RX5) (ci := 5) (q0 := 0) (wc := [(h_t, .inr (5, [.ref h_t_now, .ref h_t_images, .ref h_t_pad, .ref h_t_net, .ref h_t_second, .ref h_t_renumbering, .ref h_t_table, .ref h_t_marks])), (h_t_now, .inr (3, [.int t_now_many, .ref h_t_now_numbers])), (h_t_now_numbers, .inl (cI, 3, .inl t_now_numbers)), (h_t_net, .inr (0, [.int t_net_many, .ref h_t_net_rows])), (h_t_net_rows, .inl (cI, 7, .inl t_net_rows)), (h_t_second, .inr (0, [.int t_second_many, .ref h_t_second_rows])), (h_t_second_rows, .inl (cI, 7, .inl t_second_rows))]) (wr := [(h_t_renumbering, .inr (2, [.ref h_t_renumbering_at])), (h_t_renumbering_at, .inl (cI, 7, .inl t_renumbering_at))]) (wc' := [(h_t, .inr (5, [.ref h_t_now, .ref h_t_images, .ref h_t_pad, .ref h_t_net, .ref h_t_second, .ref h_t_renumbering, .ref h_t_table, .ref h_t_marks])), (h_t_now, .inr (3, [.int t_now_many, .ref h_t_now_numbers])), (h_t_now_numbers, .inl (cI, 3, .inl t_now_numbers)), (h_t_net, .inr (0, [.int q_5.2.1, .ref h_t_net_rows])), (h_t_net_rows, .inl (cI, 7, .inl q_5.2.2.1)), (h_t_second, .inr (0, [.int q_5.2.2.2.1, .ref h_t_second_rows])), (h_t_second_rows, .inl (cI, 7, .inl q_5.2.2.2.2))]) (wf := [(h_t, .inr (5, [.ref h_t_now, .ref h_t_images, .ref h_t_pad, .ref h_t_net, .ref h_t_second, .ref h_t_renumbering, .ref h_t_table, .ref h_t_marks])), (h_t_now, .inr (3, [.int t_now_many, .ref h_t_now_numbers])), (h_t_now_numbers, .inl (cI, 3, .inl t_now_numbers)), (h_t_net, .inr (0, [.int q_5.2.1, .ref h_t_net_rows])), (h_t_net_rows, .inl (cI, 7, .inl q_5.2.2.1)), (h_t_second, .inr (0, [.int q_5.2.2.2.1, .ref h_t_second_rows])), (h_t_second_rows, .inl (cI, 7, .inl q_5.2.2.2.2)), (h_t_renumbering, .inr (2, [.ref h_t_renumbering_at])), (h_t_renumbering_at, .inl (cI, 7, .inl t_renumbering_at))]) (rt := (some (.int q_5.1))) ⟨hx, hb, hml, hown, hts⟩ (k_X5_bringingSet h_t h_t_now h_t_images h_t_pad h_t_net h_t_second h_t_renumbering h_t_table h_t_marks h_t_now_numbers h_t_net_rows h_t_second_rows t_now_many t_now_numbers t_net_many t_net_rows t_second_many t_second_rows v1 v2 q_5 hq_5) (cwV 2 hts gX5_compare_X5_bringingSet rfl rfl rfl ⟨rfl, hdX5_bringingSet⟩ ⟨(Nat.le_of_ble_eq_true rfl), (Nat.le_of_ble_eq_true rfl)⟩) hK hN hP hD hS hA [0, 1, 2, 3, 4, 5, 6] [7, 8] [2, 3, 4, 5, 6, 7, 8, 0, 1] rfl rfl rfl rfl (by decide) rfl rfl rfl rfl rfl rfl hl.1 rfl (Nat.le_of_ble_eq_true rfl) rfl dX5_compare_51 ⟨Nat.zero_le _, Nat.zero_le _⟩ (fun H locs hP hD hS => ?_)
        refine lv_bipush (v := -6) hx hb dX5_compare_54 (by decide) ?_
        refine lv_icmp_ne (tgt := 63) hx hb dX5_compare_56 (by decide) (fun c_6 => ?_) (fun c_6 => ?_)
        · have hM := on_neg c_6 hM
          refine lv_iconst (v := 1) hx hb dX5_compare_63 (by decide) ?_
          have hM := Option.some.inj hM
          subst hM
          rw [← hQ]
          exact on_iret hx hb hr hlk hP hD hS dX5_compare_64
        · have hM := on_pos c_6 hM
          refine lv_iconst (v := 0) hx hb dX5_compare_59 (by decide) ?_
          refine lv_goto (tgt := 64) hx hb dX5_compare_60 (by decide) ?_
          have hM := Option.some.inj hM
          subst hM
          rw [← hQ]
          exact on_iret hx hb hr hlk hP hD hS dX5_compare_64
      · have hM := on_neg c_15 hM
        by_cases c_16 : v3 = 1
        · have hM := on_pos c_16 hM
          refine lv_tableIn (tgt := 65) hx hb dX5_compare_17 (by rw [c_16]; decide) (by rw [c_16]; decide) (by rw [c_16]; rfl) (by decide) ?_
          refine lv_aload_n hx hb dX5_compare_65 rfl (lv_at hl 0 rfl) ?_
          refine lv_iload_n hx hb dX5_compare_66 rfl (lv_at hl 1 rfl) ?_
          refine lv_iload_n hx hb dX5_compare_67 rfl (lv_at hl 2 rfl) ?_
          obtain ⟨q_7, hq_7, hM⟩ := on_bind hM
          refine on_callV (rest := []) (As := [.int v1, .int v2]) (st1 := [.int q_7.1]) (C := RX5) (ci := 5) (q0 := 0) (wc := [(h_t, .inr (5, [.ref h_t_now, .ref h_t_images, .ref h_t_pad, .ref h_t_net, .ref h_t_second, .ref h_t_renumbering, .ref h_t_table, .ref h_t_marks])), (h_t_now, .inr (3, [.int t_now_many, .ref h_t_now_numbers])), (h_t_now_numbers, .inl (cI, 3, .inl t_now_numbers)), (h_t_net, .inr (0, [.int t_net_many, .ref h_t_net_rows])), (h_t_net_rows, .inl (cI, 7, .inl t_net_rows)), (h_t_second, .inr (0, [.int t_second_many, .ref h_t_second_rows])), (h_t_second_rows, .inl (cI, 7, .inl t_second_rows))]) (wr := [(h_t_renumbering, .inr (2, [.ref h_t_renumbering_at])), (h_t_renumbering_at, .inl (cI, 7, .inl t_renumbering_at))]) (wc' := [(h_t, .inr (5, [.ref h_t_now, .ref h_t_images, .ref h_t_pad, .ref h_t_net, .ref h_t_second, .ref h_t_renumbering, .ref h_t_table, .ref h_t_marks])), (h_t_now, .inr (3, [.int t_now_many, .ref h_t_now_numbers])), (h_t_now_numbers, .inl (cI, 3, .inl t_now_numbers)), (h_t_net, .inr (0, [.int q_7.2.1, .ref h_t_net_rows])), (h_t_net_rows, .inl (cI, 7, .inl q_7.2.2.1)), (h_t_second, .inr (0, [.int q_7.2.2.2.1, .ref h_t_second_rows])), (h_t_second_rows, .inl (cI, 7, .inl q_7.2.2.2.2))]) (wf := [(h_t, .inr (5, [.ref h_t_now, .ref h_t_images, .ref h_t_pad, .ref h_t_net, .ref h_t_second, .ref h_t_renumbering, .ref h_t_table, .ref h_t_marks])), (h_t_now, .inr (3, [.int t_now_many, .ref h_t_now_numbers])), (h_t_now_numbers, .inl (cI, 3, .inl t_now_numbers)), (h_t_net, .inr (0, [.int q_7.2.1, .ref h_t_net_rows])), (h_t_net_rows, .inl (cI, 7, .inl q_7.2.2.1)), (h_t_second, .inr (0, [.int q_7.2.2.2.1, .ref h_t_second_rows])), (h_t_second_rows, .inl (cI, 7, .inl q_7.2.2.2.2)), (h_t_renumbering, .inr (2, [.ref h_t_renumbering_at])), (h_t_renumbering_at, .inl (cI, 7, .inl t_renumbering_at))]) (rt := (some (.int q_7.1))) ⟨hx, hb, hml, hown, hts⟩ (k_X5_bringingSet h_t h_t_now h_t_images h_t_pad h_t_net h_t_second h_t_renumbering h_t_table h_t_marks h_t_now_numbers h_t_net_rows h_t_second_rows t_now_many t_now_numbers t_net_many t_net_rows t_second_many t_second_rows v1 v2 q_7 hq_7) (cwV 2 hts gX5_compare_X5_bringingSet rfl rfl rfl ⟨rfl, hdX5_bringingSet⟩ ⟨(Nat.le_of_ble_eq_true rfl), (Nat.le_of_ble_eq_true rfl)⟩) hK hN hP hD hS hA [0, 1, 2, 3, 4, 5, 6] [7, 8] [2, 3, 4, 5, 6, 7, 8, 0, 1] rfl rfl rfl rfl (by decide) rfl rfl rfl rfl rfl rfl hl.1 rfl (Nat.le_of_ble_eq_true rfl) rfl dX5_compare_68 ⟨Nat.zero_le _, Nat.zero_le _⟩ (fun H locs hP hD hS => ?_)
          have hM := Option.some.inj hM
          subst hM
          rw [← hQ]
          exact on_iret hx hb hr hlk hP hD hS dX5_compare_71
        · have hM := on_neg c_16 hM
          by_cases c_17 : v3 = 2
          · have hM := on_pos c_17 hM
            refine lv_tableIn (tgt := 72) hx hb dX5_compare_17 (by rw [c_17]; decide) (by rw [c_17]; decide) (by rw [c_17]; rfl) (by decide) ?_
            refine lv_aload_n hx hb dX5_compare_72 rfl (lv_at hl 0 rfl) ?_
            refine lv_aload_n hx hb dX5_compare_73 rfl (lv_at hl 0 rfl) ?_
            refine va_get (D := D) (ci := 5) (v := .ref h_t_net) (C := RX5) (T := TX5) (N := 8) hx hb hts w2 hown hK hP 0 rfl rfl 3 (by decide) w1 (fun _ h9 => h9) rfl dX5_compare_74 ?_
            refine lv_iload_n hx hb dX5_compare_77 rfl (lv_at hl 1 rfl) ?_
            obtain ⟨q_8, hq_8, hM⟩ := on_bind hM
            refine on_callV (rest := []) (As := [.ref h_t_net, .int v1]) (st1 := []) (C := RX5) (ci := 5) (q0 := 0) (wc := [(h_t, .inr (5, [.ref h_t_now, .ref h_t_images, .ref h_t_pad, .ref h_t_net, .ref h_t_second, .ref h_t_renumbering, .ref h_t_table, .ref h_t_marks])), (h_t_now, .inr (3, [.int t_now_many, .ref h_t_now_numbers])), (h_t_now_numbers, .inl (cI, 3, .inl t_now_numbers)), (h_t_net, .inr (0, [.int t_net_many, .ref h_t_net_rows])), (h_t_net_rows, .inl (cI, 7, .inl t_net_rows))]) (wr := [(h_t_second, .inr (0, [.int t_second_many, .ref h_t_second_rows])), (h_t_second_rows, .inl (cI, 7, .inl t_second_rows)), (h_t_renumbering, .inr (2, [.ref h_t_renumbering_at])), (h_t_renumbering_at, .inl (cI, 7, .inl t_renumbering_at))]) (wc' := [(h_t, .inr (5, [.ref h_t_now, .ref h_t_images, .ref h_t_pad, .ref h_t_net, .ref h_t_second, .ref h_t_renumbering, .ref h_t_table, .ref h_t_marks])), (h_t_now, .inr (3, [.int t_now_many, .ref h_t_now_numbers])), (h_t_now_numbers, .inl (cI, 3, .inl t_now_numbers)), (h_t_net, .inr (0, [.int q_8.1, .ref h_t_net_rows])), (h_t_net_rows, .inl (cI, 7, .inl q_8.2))]) (wf := [(h_t, .inr (5, [.ref h_t_now, .ref h_t_images, .ref h_t_pad, .ref h_t_net, .ref h_t_second, .ref h_t_renumbering, .ref h_t_table, .ref h_t_marks])), (h_t_now, .inr (3, [.int t_now_many, .ref h_t_now_numbers])), (h_t_now_numbers, .inl (cI, 3, .inl t_now_numbers)), (h_t_net, .inr (0, [.int q_8.1, .ref h_t_net_rows])), (h_t_net_rows, .inl (cI, 7, .inl q_8.2)), (h_t_second, .inr (0, [.int t_second_many, .ref h_t_second_rows])), (h_t_second_rows, .inl (cI, 7, .inl t_second_rows)), (h_t_renumbering, .inr (2, [.ref h_t_renumbering_at])), (h_t_renumbering_at, .inl (cI, 7, .inl t_renumbering_at))]) (rt := none) ⟨hx, hb, hml, hown, hts⟩ (k_X5_load h_t h_t_now h_t_images h_t_pad h_t_net h_t_second h_t_renumbering h_t_table h_t_marks h_t_now_numbers h_t_net h_t_net_rows t_now_many t_now_numbers t_net_many t_net_rows v1 q_8 hq_8) (cwV 2 hts gX5_compare_X5_load rfl rfl rfl ⟨rfl, hdX5_load⟩ ⟨(Nat.le_of_ble_eq_true rfl), (Nat.le_of_ble_eq_true rfl)⟩) hK hN hP hD hS hA [0, 1, 2, 3, 4] [5, 6, 7, 8] [4, 5, 6, 7, 8, 0, 1, 2, 3] rfl rfl rfl rfl (by decide) rfl rfl rfl rfl rfl rfl hl.1 rfl (Nat.le_of_ble_eq_true rfl) rfl dX5_compare_78 ⟨Nat.zero_le _, Nat.zero_le _⟩ (fun H locs hP hD hS => ?_)
            refine lv_aload_n hx hb dX5_compare_81 rfl (lv_at hl 0 rfl) ?_
            refine lv_aload_n hx hb dX5_compare_82 rfl (lv_at hl 0 rfl) ?_
            refine va_get (D := D) (ci := 5) (v := .ref h_t_second) (C := RX5) (T := TX5) (N := 8) hx hb hts w2 hown hK hP 0 rfl rfl 4 (by decide) w3 (fun _ h9 => h9) rfl dX5_compare_83 ?_
            refine lv_iload_n hx hb dX5_compare_86 rfl (lv_at hl 2 rfl) ?_
            obtain ⟨q_9, hq_9, hM⟩ := on_bind hM
            refine on_callV (rest := []) (As := [.ref h_t_second, .int v2]) (st1 := []) (C := RX5) (ci := 5) (q0 := 0) (wc := [(h_t, .inr (5, [.ref h_t_now, .ref h_t_images, .ref h_t_pad, .ref h_t_net, .ref h_t_second, .ref h_t_renumbering, .ref h_t_table, .ref h_t_marks])), (h_t_now, .inr (3, [.int t_now_many, .ref h_t_now_numbers])), (h_t_now_numbers, .inl (cI, 3, .inl t_now_numbers)), (h_t_second, .inr (0, [.int t_second_many, .ref h_t_second_rows])), (h_t_second_rows, .inl (cI, 7, .inl t_second_rows))]) (wr := [(h_t_net, .inr (0, [.int q_8.1, .ref h_t_net_rows])), (h_t_net_rows, .inl (cI, 7, .inl q_8.2)), (h_t_renumbering, .inr (2, [.ref h_t_renumbering_at])), (h_t_renumbering_at, .inl (cI, 7, .inl t_renumbering_at))]) (wc' := [(h_t, .inr (5, [.ref h_t_now, .ref h_t_images, .ref h_t_pad, .ref h_t_net, .ref h_t_second, .ref h_t_renumbering, .ref h_t_table, .ref h_t_marks])), (h_t_now, .inr (3, [.int t_now_many, .ref h_t_now_numbers])), (h_t_now_numbers, .inl (cI, 3, .inl t_now_numbers)), (h_t_second, .inr (0, [.int q_9.1, .ref h_t_second_rows])), (h_t_second_rows, .inl (cI, 7, .inl q_9.2))]) (wf := [(h_t, .inr (5, [.ref h_t_now, .ref h_t_images, .ref h_t_pad, .ref h_t_net, .ref h_t_second, .ref h_t_renumbering, .ref h_t_table, .ref h_t_marks])), (h_t_now, .inr (3, [.int t_now_many, .ref h_t_now_numbers])), (h_t_now_numbers, .inl (cI, 3, .inl t_now_numbers)), (h_t_net, .inr (0, [.int q_8.1, .ref h_t_net_rows])), (h_t_net_rows, .inl (cI, 7, .inl q_8.2)), (h_t_second, .inr (0, [.int q_9.1, .ref h_t_second_rows])), (h_t_second_rows, .inl (cI, 7, .inl q_9.2)), (h_t_renumbering, .inr (2, [.ref h_t_renumbering_at])), (h_t_renumbering_at, .inl (cI, 7, .inl t_renumbering_at))]) (rt := none) ⟨hx, hb, hml, hown, hts⟩ (k_X5_load h_t h_t_now h_t_images h_t_pad h_t_net h_t_second h_t_renumbering h_t_table h_t_marks h_t_now_numbers h_t_second h_t_second_rows t_now_many t_now_numbers t_second_many t_second_rows v2 q_9 hq_9) (cwV 2 hts gX5_compare_X5_load rfl rfl rfl ⟨rfl, hdX5_load⟩ ⟨(Nat.le_of_ble_eq_true rfl), (Nat.le_of_ble_eq_true rfl)⟩) hK hN hP hD hS hA [0, 1, 2, 5, 6] [3, 4, 7, 8] [4, 5, 6, 0, 1, 7, 8, 2, 3] rfl rfl rfl rfl (by decide) rfl rfl rfl rfl rfl rfl hl.1 rfl (Nat.le_of_ble_eq_true rfl) rfl dX5_compare_87 ⟨Nat.zero_le _, Nat.zero_le _⟩ (fun H locs hP hD hS => ?_)
            refine lv_aload_n hx hb dX5_compare_90 rfl (lv_at hl 0 rfl) ?_
            refine va_get (D := D) (ci := 5) (v := .ref h_t_renumbering) (C := RX5) (T := TX5) (N := 8) hx hb hts w2 hown hK hP 0 rfl rfl 5 (by decide) w4 (fun _ h9 => h9) rfl dX5_compare_91 ?_
            refine lv_aload_n hx hb dX5_compare_94 rfl (lv_at hl 0 rfl) ?_
            refine va_get (D := D) (ci := 5) (v := .ref h_t_net) (C := RX5) (T := TX5) (N := 8) hx hb hts w2 hown hK hP 0 rfl rfl 3 (by decide) w1 (fun _ h9 => h9) rfl dX5_compare_95 ?_
            refine lv_aload_n hx hb dX5_compare_98 rfl (lv_at hl 0 rfl) ?_
            refine va_get (D := D) (ci := 5) (v := .ref h_t_second) (C := RX5) (T := TX5) (N := 8) hx hb hts w2 hown hK hP 0 rfl rfl 4 (by decide) w3 (fun _ h9 => h9) rfl dX5_compare_99 ?_
            obtain ⟨q_10, hq_10, hM⟩ := on_bind hM
            refine on_callVN (rest := []) (As := [.ref h_t_net, .ref h_t_second]) (st1 := [.int q_10.1]) (C := RX2) (ci := 2) (q0 := 7) (wc := [(h_t_renumbering, .inr (2, [.ref h_t_renumbering_at])), (h_t_renumbering_at, .inl (cI, 7, .inl t_renumbering_at)), (h_t_net, .inr (0, [.int q_8.1, .ref h_t_net_rows])), (h_t_net_rows, .inl (cI, 7, .inl q_8.2)), (h_t_second, .inr (0, [.int q_9.1, .ref h_t_second_rows])), (h_t_second_rows, .inl (cI, 7, .inl q_9.2))]) (wr := [(h_t, .inr (5, [.ref h_t_now, .ref h_t_images, .ref h_t_pad, .ref h_t_net, .ref h_t_second, .ref h_t_renumbering, .ref h_t_table, .ref h_t_marks])), (h_t_now, .inr (3, [.int t_now_many, .ref h_t_now_numbers])), (h_t_now_numbers, .inl (cI, 3, .inl t_now_numbers))]) (wc' := [(h_t_renumbering, .inr (2, [.ref h_t_renumbering_at])), (h_t_renumbering_at, .inl (cI, 7, .inl q_10.2)), (h_t_net, .inr (0, [.int q_8.1, .ref h_t_net_rows])), (h_t_net_rows, .inl (cI, 7, .inl q_8.2)), (h_t_second, .inr (0, [.int q_9.1, .ref h_t_second_rows])), (h_t_second_rows, .inl (cI, 7, .inl q_9.2))]) (wf := [(h_t, .inr (5, [.ref h_t_now, .ref h_t_images, .ref h_t_pad, .ref h_t_net, .ref h_t_second, .ref h_t_renumbering, .ref h_t_table, .ref h_t_marks])), (h_t_now, .inr (3, [.int t_now_many, .ref h_t_now_numbers])), (h_t_now_numbers, .inl (cI, 3, .inl t_now_numbers)), (h_t_net, .inr (0, [.int q_8.1, .ref h_t_net_rows])), (h_t_net_rows, .inl (cI, 7, .inl q_8.2)), (h_t_second, .inr (0, [.int q_9.1, .ref h_t_second_rows])), (h_t_second_rows, .inl (cI, 7, .inl q_9.2)), (h_t_renumbering, .inr (2, [.ref h_t_renumbering_at])), (h_t_renumbering_at, .inl (cI, 7, .inl q_10.2))]) (rt := (some (.int q_10.1))) ⟨hx, hb, hml, hown, hts⟩ (k_X2_brings h_t_renumbering h_t_renumbering_at h_t_net h_t_net_rows h_t_second h_t_second_rows t_renumbering_at q_8.1 q_8.2 q_9.1 q_9.2 q_10 hq_10) ⟨va_cnB 2 hts gX5_compare_X2_brings_n164 rfl rfl rfl (hN _ (List.mem_of_getElem? (i := 40) rfl)) w5 hdX2_brings ⟨(Nat.le_of_ble_eq_true rfl), (Nat.le_of_ble_eq_true rfl)⟩, w6, w7⟩ hK hN hP hD hS hA [7, 8, 3, 4, 5, 6] [0, 1, 2] [0, 1, 2, 5, 6, 7, 8, 3, 4] rfl rfl rfl rfl (by decide) rfl rfl rfl rfl rfl rfl hl.1 rfl (Nat.le_of_ble_eq_true rfl) rfl dX5_compare_102 ⟨Nat.zero_le _, Nat.zero_le _⟩ (fun H locs hP hD hS => ?_)
            refine lv_if_eq (tgt := 112) hx hb dX5_compare_105 (by decide) (fun c_11 => ?_) (fun c_11 => ?_)
            · have hM := on_pos c_11 hM
              refine lv_iconst (v := 0) hx hb dX5_compare_112 (by decide) ?_
              have hM := Option.some.inj hM
              subst hM
              rw [← hQ]
              exact on_iret hx hb hr hlk hP hD hS dX5_compare_113
            · have hM := on_neg c_11 hM
              refine lv_iconst (v := 1) hx hb dX5_compare_108 (by decide) ?_
              refine lv_goto (tgt := 113) hx hb dX5_compare_109 (by decide) ?_
              have hM := Option.some.inj hM
              subst hM
              rw [← hQ]
              exact on_iret hx hb hr hlk hP hD hS dX5_compare_113
          · have hM := on_neg c_17 hM
            by_cases c_18 : v3 = 3
            · have hM := on_pos c_18 hM
              refine lv_tableIn (tgt := 114) hx hb dX5_compare_17 (by rw [c_18]; decide) (by rw [c_18]; decide) (by rw [c_18]; rfl) (by decide) ?_
              refine lv_aload_n hx hb dX5_compare_114 rfl (lv_at hl 0 rfl) ?_
              refine lv_iload_n hx hb dX5_compare_115 rfl (lv_at hl 1 rfl) ?_
              obtain ⟨q_12, hq_12, hM⟩ := on_bind hM
              refine on_callV (rest := []) (As := [.int v1]) (st1 := [.int q_12.1]) (C := RX5) (ci := 5) (q0 := 0) (wc := [(h_t, .inr (5, [.ref h_t_now, .ref h_t_images, .ref h_t_pad, .ref h_t_net, .ref h_t_second, .ref h_t_renumbering, .ref h_t_table, .ref h_t_marks])), (h_t_now, .inr (3, [.int t_now_many, .ref h_t_now_numbers])), (h_t_now_numbers, .inl (cI, 3, .inl t_now_numbers)), (h_t_net, .inr (0, [.int t_net_many, .ref h_t_net_rows])), (h_t_net_rows, .inl (cI, 7, .inl t_net_rows)), (h_t_renumbering, .inr (2, [.ref h_t_renumbering_at])), (h_t_renumbering_at, .inl (cI, 7, .inl t_renumbering_at))]) (wr := [(h_t_second, .inr (0, [.int t_second_many, .ref h_t_second_rows])), (h_t_second_rows, .inl (cI, 7, .inl t_second_rows))]) (wc' := [(h_t, .inr (5, [.ref h_t_now, .ref h_t_images, .ref h_t_pad, .ref h_t_net, .ref h_t_second, .ref h_t_renumbering, .ref h_t_table, .ref h_t_marks])), (h_t_now, .inr (3, [.int t_now_many, .ref h_t_now_numbers])), (h_t_now_numbers, .inl (cI, 3, .inl t_now_numbers)), (h_t_net, .inr (0, [.int q_12.2.1, .ref h_t_net_rows])), (h_t_net_rows, .inl (cI, 7, .inl q_12.2.2.1)), (h_t_renumbering, .inr (2, [.ref h_t_renumbering_at])), (h_t_renumbering_at, .inl (cI, 7, .inl q_12.2.2.2))]) (wf := [(h_t, .inr (5, [.ref h_t_now, .ref h_t_images, .ref h_t_pad, .ref h_t_net, .ref h_t_second, .ref h_t_renumbering, .ref h_t_table, .ref h_t_marks])), (h_t_now, .inr (3, [.int t_now_many, .ref h_t_now_numbers])), (h_t_now_numbers, .inl (cI, 3, .inl t_now_numbers)), (h_t_net, .inr (0, [.int q_12.2.1, .ref h_t_net_rows])), (h_t_net_rows, .inl (cI, 7, .inl q_12.2.2.1)), (h_t_second, .inr (0, [.int t_second_many, .ref h_t_second_rows])), (h_t_second_rows, .inl (cI, 7, .inl t_second_rows)), (h_t_renumbering, .inr (2, [.ref h_t_renumbering_at])), (h_t_renumbering_at, .inl (cI, 7, .inl q_12.2.2.2))]) (rt := (some (.int q_12.1))) ⟨hx, hb, hml, hown, hts⟩ (k_X5_kindOfSlot h_t h_t_now h_t_images h_t_pad h_t_net h_t_second h_t_renumbering h_t_table h_t_marks h_t_now_numbers h_t_net_rows h_t_renumbering_at t_now_many t_now_numbers t_net_many t_net_rows t_renumbering_at v1 q_12 hq_12) (cwV 1 hts gX5_compare_X5_kindOfSlot rfl rfl rfl ⟨rfl, hdX5_kindOfSlot⟩ ⟨(Nat.le_of_ble_eq_true rfl), (Nat.le_of_ble_eq_true rfl)⟩) hK hN hP hD hS hA [0, 1, 2, 3, 4, 7, 8] [5, 6] [2, 3, 4, 5, 6, 0, 1, 7, 8] rfl rfl rfl rfl (by decide) rfl rfl rfl rfl rfl rfl hl.1 rfl (Nat.le_of_ble_eq_true rfl) rfl dX5_compare_116 ⟨Nat.zero_le _, Nat.zero_le _⟩ (fun H locs hP hD hS => ?_)
              refine lv_aload_n hx hb dX5_compare_119 rfl (lv_at hl 0 rfl) ?_
              refine lv_iload_n hx hb dX5_compare_120 rfl (lv_at hl 2 rfl) ?_
              obtain ⟨q_13, hq_13, hM⟩ := on_bind hM
              refine on_callV (rest := [.int q_12.1]) (As := [.int v2]) (st1 := [.int q_13.1, .int q_12.1]) (C := RX5) (ci := 5) (q0 := 0) (wc := [(h_t, .inr (5, [.ref h_t_now, .ref h_t_images, .ref h_t_pad, .ref h_t_net, .ref h_t_second, .ref h_t_renumbering, .ref h_t_table, .ref h_t_marks])), (h_t_now, .inr (3, [.int t_now_many, .ref h_t_now_numbers])), (h_t_now_numbers, .inl (cI, 3, .inl t_now_numbers)), (h_t_net, .inr (0, [.int q_12.2.1, .ref h_t_net_rows])), (h_t_net_rows, .inl (cI, 7, .inl q_12.2.2.1)), (h_t_renumbering, .inr (2, [.ref h_t_renumbering_at])), (h_t_renumbering_at, .inl (cI, 7, .inl q_12.2.2.2))]) (wr := [(h_t_second, .inr (0, [.int t_second_many, .ref h_t_second_rows])), (h_t_second_rows, .inl (cI, 7, .inl t_second_rows))]) (wc' := [(h_t, .inr (5, [.ref h_t_now, .ref h_t_images, .ref h_t_pad, .ref h_t_net, .ref h_t_second, .ref h_t_renumbering, .ref h_t_table, .ref h_t_marks])), (h_t_now, .inr (3, [.int t_now_many, .ref h_t_now_numbers])), (h_t_now_numbers, .inl (cI, 3, .inl t_now_numbers)), (h_t_net, .inr (0, [.int q_13.2.1, .ref h_t_net_rows])), (h_t_net_rows, .inl (cI, 7, .inl q_13.2.2.1)), (h_t_renumbering, .inr (2, [.ref h_t_renumbering_at])), (h_t_renumbering_at, .inl (cI, 7, .inl q_13.2.2.2))]) (wf := [(h_t, .inr (5, [.ref h_t_now, .ref h_t_images, .ref h_t_pad, .ref h_t_net, .ref h_t_second, .ref h_t_renumbering, .ref h_t_table, .ref h_t_marks])), (h_t_now, .inr (3, [.int t_now_many, .ref h_t_now_numbers])), (h_t_now_numbers, .inl (cI, 3, .inl t_now_numbers)), (h_t_net, .inr (0, [.int q_13.2.1, .ref h_t_net_rows])), (h_t_net_rows, .inl (cI, 7, .inl q_13.2.2.1)), (h_t_second, .inr (0, [.int t_second_many, .ref h_t_second_rows])), (h_t_second_rows, .inl (cI, 7, .inl t_second_rows)), (h_t_renumbering, .inr (2, [.ref h_t_renumbering_at])), (h_t_renumbering_at, .inl (cI, 7, .inl q_13.2.2.2))]) (rt := (some (.int q_13.1))) ⟨hx, hb, hml, hown, hts⟩ (k_X5_kindOfSlot h_t h_t_now h_t_images h_t_pad h_t_net h_t_second h_t_renumbering h_t_table h_t_marks h_t_now_numbers h_t_net_rows h_t_renumbering_at t_now_many t_now_numbers q_12.2.1 q_12.2.2.1 q_12.2.2.2 v2 q_13 hq_13) (cwV 1 hts gX5_compare_X5_kindOfSlot rfl rfl rfl ⟨rfl, hdX5_kindOfSlot⟩ ⟨(Nat.le_of_ble_eq_true rfl), (Nat.le_of_ble_eq_true rfl)⟩) hK hN hP hD hS hA [0, 1, 2, 3, 4, 7, 8] [5, 6] [2, 3, 4, 5, 6, 0, 1, 7, 8] rfl rfl rfl rfl (by decide) rfl rfl rfl rfl rfl rfl hl.1 rfl (Nat.le_of_ble_eq_true rfl) rfl dX5_compare_121 ⟨Nat.zero_le _, Nat.zero_le _⟩ (fun H locs hP hD hS => ?_)
              refine lv_icmp_ne (tgt := 131) hx hb dX5_compare_124 (by decide) (fun c_14 => ?_) (fun c_14 => ?_)
              · have hM := on_neg c_14 hM
                refine lv_iconst (v := 0) hx hb dX5_compare_131 (by decide) ?_
                have hM := Option.some.inj hM
                subst hM
                rw [← hQ]
                exact on_iret hx hb hr hlk hP hD hS dX5_compare_132
              · have hM := on_pos c_14 hM
                refine lv_iconst (v := 1) hx hb dX5_compare_127 (by decide) ?_
                refine lv_goto (tgt := 132) hx hb dX5_compare_128 (by decide) ?_
                have hM := Option.some.inj hM
                subst hM
                rw [← hQ]
                exact on_iret hx hb hr hlk hP hD hS dX5_compare_132
            · have hM := on_neg c_18 hM
              refine lv_tableOut (tgt := 133) hx hb dX5_compare_17 (on_swOut (n := 4) (fun k hk => by rcases (show k = 0 ∨ k = 1 ∨ k = 2 ∨ k = 3 by omega) with rfl | rfl | rfl | rfl <;> first | exact c_15 | exact c_16 | exact c_17 | exact c_18) (by decide)) (by decide) ?_
              refine lv_bipush (v := -2) hx hb dX5_compare_133 (by decide) ?_
              have hM := Option.some.inj hM
              subst hM
              rw [← hQ]
              exact on_iret hx hb hr hlk hP hD hS dX5_compare_135
    · have hM := on_pos c_4 hM
      refine lv_iconst (v := -1) hx hb dX5_compare_14 (by decide) ?_
      have hM := Option.some.inj hM
      subst hM
      rw [← hQ]
      exact on_iret hx hb hr hlk hP hD hS dX5_compare_15
abbrev rm_X2_goesTo_aa : Room := { frames := 2, cells := 0, slots := 0, locals := 41 }
set_option maxHeartbeats 4000000 in
set_option maxRecDepth 100000 in
theorem k_X2_goesTo_aa {l : Launch} {D : va_G} {cI cJ cZ cS cA : ClassId} (h_p0 : Nat) (h_p0_rows : Nat) (h_p2 : Nat) (p0_many : Int32) (p0_rows : Nat → Int32) (p2 : Nat → Int32) (v3 : Int32) (v4 : Int32) (out : Int32) (hM : M_X2_goesTo v3 v4 p0_rows p0_rows p2 = some out) : on_Con l yX2_goesTo wsX2_goesTo rm_X2_goesTo_aa [.ref h_p0, .ref h_p0, .ref h_p2, .int v3, .int v4] D (on_T cI cJ cZ cS cA) [(h_p0, .inr (0, [.int p0_many, .ref h_p0_rows])), (h_p0_rows, .inl (cI, 7, .inl p0_rows)), (h_p2, .inl (cI, 7, .inl p2))] (some (.int out)) [(h_p0, .inr (0, [.int p0_many, .ref h_p0_rows])), (h_p0_rows, .inl (cI, 7, .inl p0_rows)), (h_p2, .inl (cI, 7, .inl p2))] := by
  unfold M_X2_goesTo at hM
  refine on_enter (cc := cX2_goesTo) (nL := 6) (rt := (some .boolean)) (own := RX2) (by decide +kernel) rfl rfl (Nat.le_of_ble_eq_true rfl) ?_
  intro p e s m below meth c A ls hx hb hml hr hlk hts hown hA hK hN H locs hP hD hS hl
  have hl : lv_has ls 6 [(0, .ref h_p0), (1, .ref h_p0), (2, .ref h_p2), (3, .int v3), (4, .int v4)] := hl
  generalize hQ : MQ below (on_Q D (some (.int out)) [(h_p0, .inr (0, [.int p0_many, .ref h_p0_rows])), (h_p0_rows, .inl (cI, 7, .inl p0_rows)), (h_p2, .inl (cI, 7, .inl p2))] A) _ s 0 0 A = Q
  generalize hAr : List.toArray ([.ref h_p0, .ref h_p0, .ref h_p2, .int v3, .int v4] : List Value) = args at hts hQ ⊢
  have w1 := hts (.initialized RX0) (by decide +kernel)
  have w2 := hts (.instanceMethod yX0_degree) (by decide +kernel)
  have w3 := hts (.selects RX0 yX0_degree yX0_degree) (by decide +kernel)
  have w4 := hts (.instanceMethod yX0_joined) (by decide +kernel)
  have w5 := hts (.selects RX0 yX0_joined yX0_joined) (by decide +kernel)
  have lp_19 : ∀ (v3 : Int32) (v4 : Int32), ∀ (n : Nat) (v5 : Int32) (x : Int32 ⊕ Unit), on_loop (fun (s : Int32) => B_X2_goesTo_19 v3 v4 p0_rows p0_rows p2 s) n v5 = some x → (∀ u, x = Sum.inr u → ∀ (H : Heap) (locs : List Loc), va_P D vwCl [(h_p0, .inr (0, [.int p0_many, .ref h_p0_rows])), (h_p0_rows, .inl (cI, 7, .inl p0_rows)), (h_p2, .inl (cI, 7, .inl p2))] H → va_D A [(h_p0, .inr (0, [.int p0_many, .ref h_p0_rows])), (h_p0_rows, .inl (cI, 7, .inl p0_rows)), (h_p2, .inl (cI, 7, .inl p2))] → va_S A s.heap H locs → ∀ ls : Array Slot, lv_has ls 6 [] → W p l e rm_X2_goesTo_aa s m args below meth c H locs 0 0 Q (F0 m 53 ls [])) → (∀ o, x = Sum.inl o → o = out) → ∀ (H : Heap) (locs : List Loc), va_P D vwCl [(h_p0, .inr (0, [.int p0_many, .ref h_p0_rows])), (h_p0_rows, .inl (cI, 7, .inl p0_rows)), (h_p2, .inl (cI, 7, .inl p2))] H → va_D A [(h_p0, .inr (0, [.int p0_many, .ref h_p0_rows])), (h_p0_rows, .inl (cI, 7, .inl p0_rows)), (h_p2, .inl (cI, 7, .inl p2))] → va_S A s.heap H locs → ∀ ls : Array Slot, lv_has ls 6 [(0, .ref h_p0), (1, .ref h_p0), (2, .ref h_p2), (3, .int v3), (4, .int v4), (5, .int v5)] → W p l e rm_X2_goesTo_aa s m args below meth c H locs 0 0 Q (F0 m 19 ls []) := by
    intro v3 v4
    intro n
    induction n with
    | zero =>
      intro v5 x hL
      exact (on_loop0 hL).elim
    | succ n ih =>
      intro v5 x hL K1 K2 H locs hP hD hS ls hl
      obtain ⟨y, hM, hk⟩ := on_loopE hL
      have hM : B_X2_goesTo_19 v3 v4 p0_rows p0_rows p2 v5 = some y := hM
      unfold B_X2_goesTo_19 at hM
      refine lv_iload hx hb dX2_goesTo_19 (lv_at hl 5 rfl) ?_
      refine lv_iload_n hx hb dX2_goesTo_21 rfl (lv_at hl 3 rfl) ?_
      refine lv_icmp_ge (tgt := 53) hx hb dX2_goesTo_22 (by decide) (fun c_4 => ?_) (fun c_4 => ?_)
      · have hM := on_pos c_4 hM
        have hk := on_nxR hM hk
        subst hk
        exact K1 _ rfl _ _ hP hD hS ls (lv_sub hl [] rfl)
      · have hM := on_neg c_4 hM
        refine lv_aload_n hx hb dX2_goesTo_25 rfl (lv_at hl 0 rfl) ?_
        refine lv_iload hx hb dX2_goesTo_26 (lv_at hl 5 rfl) ?_
        refine lv_iload_n hx hb dX2_goesTo_28 rfl (lv_at hl 3 rfl) ?_
        obtain ⟨q_5, hq_5, hM⟩ := on_bind hM
        refine on_callVN (rest := []) (As := [.int v5, .int v3]) (st1 := [.int q_5]) (C := RX0) (ci := 0) (q0 := 0) (wc := [(h_p0, .inr (0, [.int p0_many, .ref h_p0_rows])), (h_p0_rows, .inl (cI, 7, .inl p0_rows))]) (wr := [(h_p2, .inl (cI, 7, .inl p2))]) (wc' := [(h_p0, .inr (0, [.int p0_many, .ref h_p0_rows])), (h_p0_rows, .inl (cI, 7, .inl p0_rows))]) (wf := [(h_p0, .inr (0, [.int p0_many, .ref h_p0_rows])), (h_p0_rows, .inl (cI, 7, .inl p0_rows)), (h_p2, .inl (cI, 7, .inl p2))]) (rt := (some (.int q_5))) ⟨hx, hb, hml, hown, hts⟩ (k_X0_joined h_p0 h_p0_rows p0_many p0_rows v5 v3 q_5 hq_5) ⟨va_cnB 2 hts gX2_goesTo_X0_joined_n60 rfl rfl rfl (hN _ (List.mem_of_getElem? (i := 42) rfl)) w1 hdX0_joined ⟨(Nat.le_of_ble_eq_true rfl), (Nat.le_of_ble_eq_true rfl)⟩, w4, w5⟩ hK hN hP hD hS hA [0, 1] [2] [1, 2, 0] rfl rfl rfl rfl (by decide) rfl rfl rfl rfl rfl rfl hl.1 rfl (Nat.le_of_ble_eq_true rfl) rfl dX2_goesTo_29 ⟨Nat.zero_le _, Nat.zero_le _⟩ (fun H locs hP hD hS => ?_)
        refine lv_aload_n hx hb dX2_goesTo_32 rfl (lv_at hl 1 rfl) ?_
        refine lv_aload_n hx hb dX2_goesTo_33 rfl (lv_at hl 2 rfl) ?_
        refine lv_iload hx hb dX2_goesTo_34 (lv_at hl 5 rfl) ?_
        obtain ⟨g_6, hM⟩ := on_gdE hM
        refine va_iald hx hb hK hP 2 0 rfl rfl (on_ixE g_6) dX2_goesTo_36 ?_
        refine lv_iload hx hb dX2_goesTo_37 (lv_at hl 4 rfl) ?_
        obtain ⟨q_7, hq_7, hM⟩ := on_bind hM
        refine on_callVN (rest := [.int q_5]) (As := [.int (p2 (Int32.toNatClampNeg v5)), .int v4]) (st1 := [.int q_7, .int q_5]) (C := RX0) (ci := 0) (q0 := 0) (wc := [(h_p0, .inr (0, [.int p0_many, .ref h_p0_rows])), (h_p0_rows, .inl (cI, 7, .inl p0_rows))]) (wr := [(h_p2, .inl (cI, 7, .inl p2))]) (wc' := [(h_p0, .inr (0, [.int p0_many, .ref h_p0_rows])), (h_p0_rows, .inl (cI, 7, .inl p0_rows))]) (wf := [(h_p0, .inr (0, [.int p0_many, .ref h_p0_rows])), (h_p0_rows, .inl (cI, 7, .inl p0_rows)), (h_p2, .inl (cI, 7, .inl p2))]) (rt := (some (.int q_7))) ⟨hx, hb, hml, hown, hts⟩ (k_X0_joined h_p0 h_p0_rows p0_many p0_rows (p2 (Int32.toNatClampNeg v5)) v4 q_7 hq_7) ⟨va_cnB 2 hts gX2_goesTo_X0_joined_n60 rfl rfl rfl (hN _ (List.mem_of_getElem? (i := 42) rfl)) w1 hdX0_joined ⟨(Nat.le_of_ble_eq_true rfl), (Nat.le_of_ble_eq_true rfl)⟩, w4, w5⟩ hK hN hP hD hS hA [0, 1] [2] [1, 2, 0] rfl rfl rfl rfl (by decide) rfl rfl rfl rfl rfl rfl hl.1 rfl (Nat.le_of_ble_eq_true rfl) rfl dX2_goesTo_39 ⟨Nat.zero_le _, Nat.zero_le _⟩ (fun H locs hP hD hS => ?_)
        refine lv_icmp_eq (tgt := 47) hx hb dX2_goesTo_42 (by decide) (fun c_8 => ?_) (fun c_8 => ?_)
        · have hM := on_pos c_8 hM
          obtain ⟨v5_9, ev5_9⟩ : ∃ z : Int32, z = v5 + 1 := ⟨_, rfl⟩
          have hM := on_letE ev5_9 hM
          refine lv_iinc (v := v5_9) (lv' := [(5, .int v5_9), (0, .ref h_p0), (1, .ref h_p0), (2, .ref h_p2), (3, .int v3), (4, .int v4)]) hx hb dX2_goesTo_47 hl (k := 5) rfl (by rw [ev5_9]; rfl) (by decide) rfl (fun ls hl => ?_)
          refine lv_goto (tgt := 19) hx hb dX2_goesTo_50 (by decide) ?_
          have hk := on_nxL hM hk
          exact ih v5_9 _ hk K1 K2 _ _ hP hD hS ls (lv_sub hl [1, 2, 3, 4, 5, 0] rfl)
        · have hM := on_neg c_8 hM
          refine lv_iconst (v := 0) hx hb dX2_goesTo_45 (by decide) ?_
          have hk := on_nxR hM hk
          subst hk
          have ho := K2 _ rfl
          subst ho
          rw [← hQ]
          exact on_zret hx hb hr hlk hP hD hS rfl dX2_goesTo_46
  refine lv_aload_n hx hb dX2_goesTo_0 rfl (lv_at hl 0 rfl) ?_
  refine lv_iload_n hx hb dX2_goesTo_1 rfl (lv_at hl 3 rfl) ?_
  obtain ⟨q_1, hq_1, hM⟩ := on_bind hM
  refine on_callVN (rest := []) (As := [.int v3]) (st1 := [.int q_1]) (C := RX0) (ci := 0) (q0 := 0) (wc := [(h_p0, .inr (0, [.int p0_many, .ref h_p0_rows])), (h_p0_rows, .inl (cI, 7, .inl p0_rows))]) (wr := [(h_p2, .inl (cI, 7, .inl p2))]) (wc' := [(h_p0, .inr (0, [.int p0_many, .ref h_p0_rows])), (h_p0_rows, .inl (cI, 7, .inl p0_rows))]) (wf := [(h_p0, .inr (0, [.int p0_many, .ref h_p0_rows])), (h_p0_rows, .inl (cI, 7, .inl p0_rows)), (h_p2, .inl (cI, 7, .inl p2))]) (rt := (some (.int q_1))) ⟨hx, hb, hml, hown, hts⟩ (k_X0_degree h_p0 h_p0_rows p0_many p0_rows v3 q_1 hq_1) ⟨va_cnB 1 hts gX2_goesTo_X0_degree_n81 rfl rfl rfl (hN _ (List.mem_of_getElem? (i := 41) rfl)) w1 hdX0_degree ⟨(Nat.le_of_ble_eq_true rfl), (Nat.le_of_ble_eq_true rfl)⟩, w2, w3⟩ hK hN hP hD hS hA [0, 1] [2] [1, 2, 0] rfl rfl rfl rfl (by decide) rfl rfl rfl rfl rfl rfl hl.1 rfl (Nat.le_of_ble_eq_true rfl) rfl dX2_goesTo_2 ⟨Nat.zero_le _, Nat.zero_le _⟩ (fun H locs hP hD hS => ?_)
  refine lv_aload_n hx hb dX2_goesTo_5 rfl (lv_at hl 1 rfl) ?_
  refine lv_iload hx hb dX2_goesTo_6 (lv_at hl 4 rfl) ?_
  obtain ⟨q_2, hq_2, hM⟩ := on_bind hM
  refine on_callVN (rest := [.int q_1]) (As := [.int v4]) (st1 := [.int q_2, .int q_1]) (C := RX0) (ci := 0) (q0 := 0) (wc := [(h_p0, .inr (0, [.int p0_many, .ref h_p0_rows])), (h_p0_rows, .inl (cI, 7, .inl p0_rows))]) (wr := [(h_p2, .inl (cI, 7, .inl p2))]) (wc' := [(h_p0, .inr (0, [.int p0_many, .ref h_p0_rows])), (h_p0_rows, .inl (cI, 7, .inl p0_rows))]) (wf := [(h_p0, .inr (0, [.int p0_many, .ref h_p0_rows])), (h_p0_rows, .inl (cI, 7, .inl p0_rows)), (h_p2, .inl (cI, 7, .inl p2))]) (rt := (some (.int q_2))) ⟨hx, hb, hml, hown, hts⟩ (k_X0_degree h_p0 h_p0_rows p0_many p0_rows v4 q_2 hq_2) ⟨va_cnB 1 hts gX2_goesTo_X0_degree_n81 rfl rfl rfl (hN _ (List.mem_of_getElem? (i := 41) rfl)) w1 hdX0_degree ⟨(Nat.le_of_ble_eq_true rfl), (Nat.le_of_ble_eq_true rfl)⟩, w2, w3⟩ hK hN hP hD hS hA [0, 1] [2] [1, 2, 0] rfl rfl rfl rfl (by decide) rfl rfl rfl rfl rfl rfl hl.1 rfl (Nat.le_of_ble_eq_true rfl) rfl dX2_goesTo_8 ⟨Nat.zero_le _, Nat.zero_le _⟩ (fun H locs hP hD hS => ?_)
  refine lv_icmp_eq (tgt := 16) hx hb dX2_goesTo_11 (by decide) (fun c_3 => ?_) (fun c_3 => ?_)
  · have hM := on_pos c_3 hM
    refine lv_iconst (v := 0) hx hb dX2_goesTo_16 (by decide) ?_
    refine lv_istore (lv' := [(5, .int (0 : Int32)), (0, .ref h_p0), (1, .ref h_p0), (2, .ref h_p2), (3, .int v3), (4, .int v4)]) hx hb dX2_goesTo_17 hl (by decide) rfl (fun ls hl => ?_)
    obtain ⟨q_10, hq_10, hM⟩ := on_bind hM
    refine lp_19 v3 v4 on_F (0 : Int32) q_10 hq_10 (fun u_11 hv H locs hP hD hS ls hl => ?_) (fun o ho => ?_) H locs hP hD hS ls (lv_sub hl [1, 2, 3, 4, 5, 0] rfl)
    · subst hv
      have hM := on_elR hM
      refine lv_iconst (v := 1) hx hb dX2_goesTo_53 (by decide) ?_
      have hM := Option.some.inj hM
      subst hM
      rw [← hQ]
      exact on_zret hx hb hr hlk hP hD hS rfl dX2_goesTo_54
    · subst ho
      have hM := on_elL hM
      exact Option.some.inj hM
  · have hM := on_neg c_3 hM
    refine lv_iconst (v := 0) hx hb dX2_goesTo_14 (by decide) ?_
    have hM := Option.some.inj hM
    subst hM
    rw [← hQ]
    exact on_zret hx hb hr hlk hP hD hS rfl dX2_goesTo_15
