abbrev rm_X2_canGoOn_aa (d : Nat) : Room := { frames := 3 + d, cells := 0, slots := 0, locals := 66 + d * 25 }
theorem rrl_X2_canGoOn_aa (d : Nat) : 8 + (6 + 11) + (rm_X2_canGoOn_aa d).locals ≤ (rm_X2_canGoOn_aa (d + 1)).locals := by
  show 8 + (6 + 11) + (66 + d * 25) ≤ 66 + (d + 1) * 25
  omega
set_option maxHeartbeats 4000000 in
set_option maxRecDepth 100000 in
theorem k_X2_canGoOn_aa {l : Launch} {D : va_G} {cI cJ cZ cS cA : ClassId} : ∀ (d : Nat) (h_p0 : Nat) (h_p0_rows : Nat) (h_p2 : Nat) (p0_many : Int32) (p0_rows : Nat → Int32) (p2 : Nat → Int32) (v3 : Int32) (v4 : Int32) (out : Int32 × (Nat → Int32)) (hM : M_X2_canGoOn d v3 v4 p0_many p0_rows p0_many p0_rows p2 = some out), on_Con l yX2_canGoOn wsX2_canGoOn (rm_X2_canGoOn_aa d) [.ref h_p0, .ref h_p0, .ref h_p2, .int v3, .int v4] D (on_T cI cJ cZ cS cA) [(h_p0, .inr (0, [.int p0_many, .ref h_p0_rows])), (h_p0_rows, .inl (cI, 7, .inl p0_rows)), (h_p2, .inl (cI, 7, .inl p2))] (some (.int out.1)) [(h_p0, .inr (0, [.int p0_many, .ref h_p0_rows])), (h_p0_rows, .inl (cI, 7, .inl p0_rows)), (h_p2, .inl (cI, 7, .inl out.2))] := by
  intro d
  induction d with
  | zero =>
    intro h_p0 h_p0_rows h_p2 p0_many p0_rows p2 v3 v4 out hM
    have hM : none = some out := hM
    cases hM
  | succ d ihd =>
  intro h_p0 h_p0_rows h_p2 p0_many p0_rows p2 v3 v4 out hM
  have hM : (if v3 < p0_many then ((on_loop (fun (s : Int32 × (Nat → Int32)) => B_X2_canGoOn_13 (M_X2_canGoOn d) v3 v4 p0_many p0_rows p0_many p0_rows s.1 s.2) on_F ((0 : Int32), p2)).bind (Sum.elim some (fun u_13 => (some ((0 : Int32), u_13))))) else (some ((1 : Int32), p2))) = some out := hM
  refine on_enter (cc := cX2_canGoOn) (nL := 6) (rt := (some .boolean)) (own := RX2) (by decide +kernel) rfl rfl (Nat.le_of_ble_eq_true rfl) ?_
  intro p e s m below meth c A ls hx hb hml hr hlk hts hown hA hK hN H locs hP hD hS hl
  have hl : lv_has ls 6 [(0, .ref h_p0), (1, .ref h_p0), (2, .ref h_p2), (3, .int v3), (4, .int v4)] := hl
  generalize hQ : MQ below (on_Q D (some (.int out.1)) [(h_p0, .inr (0, [.int p0_many, .ref h_p0_rows])), (h_p0_rows, .inl (cI, 7, .inl p0_rows)), (h_p2, .inl (cI, 7, .inl out.2))] A) _ s 0 0 A = Q
  generalize hAr : List.toArray ([.ref h_p0, .ref h_p0, .ref h_p2, .int v3, .int v4] : List Value) = args at hts hQ ⊢
  have w1 : ∀ w ∈ wsX00, w ∈ wsX2_canGoOn := by decide +kernel
  have lp_13 : ∀ (v3 : Int32) (v4 : Int32), ∀ (n : Nat) (v5 : Int32) (p2 : Nat → Int32) (x : (Int32 × (Nat → Int32)) ⊕ (Nat → Int32)), on_loop (fun (s : Int32 × (Nat → Int32)) => B_X2_canGoOn_13 (M_X2_canGoOn d) v3 v4 p0_many p0_rows p0_many p0_rows s.1 s.2) n (v5, p2) = some x → (∀ u, x = Sum.inr u → ∀ (H : Heap) (locs : List Loc), va_P D vwCl [(h_p0, .inr (0, [.int p0_many, .ref h_p0_rows])), (h_p0_rows, .inl (cI, 7, .inl p0_rows)), (h_p2, .inl (cI, 7, .inl u))] H → va_D A [(h_p0, .inr (0, [.int p0_many, .ref h_p0_rows])), (h_p0_rows, .inl (cI, 7, .inl p0_rows)), (h_p2, .inl (cI, 7, .inl u))] → va_S A s.heap H locs → ∀ ls : Array Slot, lv_has ls 6 [] → W p l e (rm_X2_canGoOn_aa (d + 1)) s m args below meth c H locs 0 0 Q (F0 m 76 ls [])) → (∀ o, x = Sum.inl o → o = out) → ∀ (H : Heap) (locs : List Loc), va_P D vwCl [(h_p0, .inr (0, [.int p0_many, .ref h_p0_rows])), (h_p0_rows, .inl (cI, 7, .inl p0_rows)), (h_p2, .inl (cI, 7, .inl p2))] H → va_D A [(h_p0, .inr (0, [.int p0_many, .ref h_p0_rows])), (h_p0_rows, .inl (cI, 7, .inl p0_rows)), (h_p2, .inl (cI, 7, .inl p2))] → va_S A s.heap H locs → ∀ ls : Array Slot, lv_has ls 6 [(0, .ref h_p0), (1, .ref h_p0), (2, .ref h_p2), (3, .int v3), (4, .int v4), (5, .int v5)] → W p l e (rm_X2_canGoOn_aa (d + 1)) s m args below meth c H locs 0 0 Q (F0 m 13 ls []) := by
    intro v3 v4
    intro n
    induction n with
    | zero =>
      intro v5 p2 x hL
      exact (on_loop0 hL).elim
    | succ n ih =>
      intro v5 p2 x hL K1 K2 H locs hP hD hS ls hl
      obtain ⟨y, hM, hk⟩ := on_loopE hL
      have hM : B_X2_canGoOn_13 (M_X2_canGoOn d) v3 v4 p0_many p0_rows p0_many p0_rows v5 p2 = some y := hM
      unfold B_X2_canGoOn_13 at hM
      refine lv_iload hx hb dX2_canGoOn_13 (lv_at hl 5 rfl) ?_
      refine lv_aload_n hx hb dX2_canGoOn_15 rfl (lv_at hl 1 rfl) ?_
      refine va_getN (D := D) (ci := 0) (v := .int p0_many) (C := RX0) (T := TX0) (N := 2) hx hb hts w1 hown hK hP 0 rfl rfl 0 (by decide) (va_Nw.use rfl (hN _ (List.mem_of_getElem? (i := 3) rfl))) (fun _ h9 => h9) rfl dX2_canGoOn_16 ?_
      refine lv_icmp_ge (tgt := 76) hx hb dX2_canGoOn_19 (by decide) (fun c_2 => ?_) (fun c_2 => ?_)
      · have hM := on_pos c_2 hM
        have hk := on_nxR hM hk
        subst hk
        exact K1 _ rfl _ _ hP hD hS ls (lv_sub hl [] rfl)
      · have hM := on_neg c_2 hM
        refine lv_iload hx hb dX2_canGoOn_22 (lv_at hl 4 rfl) ?_
        refine lv_iload hx hb dX2_canGoOn_24 (lv_at hl 5 rfl) ?_
        refine lv_ishr hx hb dX2_canGoOn_26 ?_
        refine lv_iconst (v := 1) hx hb dX2_canGoOn_27 (by decide) ?_
        refine lv_iand hx hb dX2_canGoOn_28 ?_
        refine lv_if_ne (tgt := 70) hx hb dX2_canGoOn_29 (by decide) (fun c_3 => ?_) (fun c_3 => ?_)
        · have hM := on_neg c_3 hM
          obtain ⟨v5_4, ev5_4⟩ : ∃ z : Int32, z = v5 + 1 := ⟨_, rfl⟩
          have hM := on_letE ev5_4 hM
          refine lv_iinc (v := v5_4) (lv' := [(5, .int v5_4), (0, .ref h_p0), (1, .ref h_p0), (2, .ref h_p2), (3, .int v3), (4, .int v4)]) hx hb dX2_canGoOn_70 hl (k := 5) rfl (by rw [ev5_4]; rfl) (by decide) rfl (fun ls hl => ?_)
          refine lv_goto (tgt := 13) hx hb dX2_canGoOn_73 (by decide) ?_
          have hk := on_nxL hM hk
          exact ih v5_4 p2 _ hk K1 K2 _ _ hP hD hS ls (lv_sub hl [1, 2, 3, 4, 5, 0] rfl)
        · have hM := on_pos c_3 hM
          refine lv_aload_n hx hb dX2_canGoOn_32 rfl (lv_at hl 0 rfl) ?_
          refine lv_aload_n hx hb dX2_canGoOn_33 rfl (lv_at hl 1 rfl) ?_
          refine lv_aload_n hx hb dX2_canGoOn_34 rfl (lv_at hl 2 rfl) ?_
          refine lv_iload_n hx hb dX2_canGoOn_35 rfl (lv_at hl 3 rfl) ?_
          refine lv_iload hx hb dX2_canGoOn_36 (lv_at hl 5 rfl) ?_
          obtain ⟨q_5, hq_5, hM⟩ := on_bind hM
          refine on_callS (rest := []) (As := [.ref h_p0, .ref h_p0, .ref h_p2, .int v3, .int v5]) (st1 := [.int q_5]) (wc := [(h_p0, .inr (0, [.int p0_many, .ref h_p0_rows])), (h_p0_rows, .inl (cI, 7, .inl p0_rows)), (h_p2, .inl (cI, 7, .inl p2))]) (wr := []) (wc' := [(h_p0, .inr (0, [.int p0_many, .ref h_p0_rows])), (h_p0_rows, .inl (cI, 7, .inl p0_rows)), (h_p2, .inl (cI, 7, .inl p2))]) (wf := [(h_p0, .inr (0, [.int p0_many, .ref h_p0_rows])), (h_p0_rows, .inl (cI, 7, .inl p0_rows)), (h_p2, .inl (cI, 7, .inl p2))]) (rt := (some (.int q_5))) ⟨hx, hb, hml, hown, hts⟩ (k_X2_goesTo_aa h_p0 h_p0_rows h_p2 p0_many p0_rows p2 v3 v5 q_5 hq_5) (va_cwS 5 hts gX2_canGoOn_X2_goesTo rfl rfl rfl hdX2_goesTo ⟨(on_le1 (Nat.le_of_ble_eq_true rfl)), (on_le1 (Nat.le_of_ble_eq_true rfl))⟩) hK hN hP hD hS hA [0, 1, 2] [] [0, 1, 2] rfl rfl rfl rfl (by decide) rfl rfl rfl hl.1 rfl (Nat.le_of_ble_eq_true rfl) rfl dX2_canGoOn_38 ⟨Nat.zero_le _, Nat.zero_le _⟩ (fun H locs hP hD hS => ?_)
          refine lv_if_eq (tgt := 70) hx hb dX2_canGoOn_41 (by decide) (fun c_6 => ?_) (fun c_6 => ?_)
          · have hM := on_pos c_6 hM
            obtain ⟨v5_7, ev5_7⟩ : ∃ z : Int32, z = v5 + 1 := ⟨_, rfl⟩
            have hM := on_letE ev5_7 hM
            refine lv_iinc (v := v5_7) (lv' := [(5, .int v5_7), (0, .ref h_p0), (1, .ref h_p0), (2, .ref h_p2), (3, .int v3), (4, .int v4)]) hx hb dX2_canGoOn_70 hl (k := 5) rfl (by rw [ev5_7]; rfl) (by decide) rfl (fun ls hl => ?_)
            refine lv_goto (tgt := 13) hx hb dX2_canGoOn_73 (by decide) ?_
            have hk := on_nxL hM hk
            exact ih v5_7 p2 _ hk K1 K2 _ _ hP hD hS ls (lv_sub hl [1, 2, 3, 4, 5, 0] rfl)
          · have hM := on_neg c_6 hM
            refine lv_aload_n hx hb dX2_canGoOn_44 rfl (lv_at hl 2 rfl) ?_
            refine lv_iload_n hx hb dX2_canGoOn_45 rfl (lv_at hl 3 rfl) ?_
            refine lv_iload hx hb dX2_canGoOn_46 (lv_at hl 5 rfl) ?_
            obtain ⟨g_8, hM⟩ := on_gdE hM
            refine va_iast hx hb hK hP hD hS 2 0 rfl rfl (on_ixE g_8) dX2_canGoOn_48 (fun H locs hP hD hS => ?_)
            have hP : va_P D vwCl [(h_p0, .inr (0, [.int p0_many, .ref h_p0_rows])), (h_p0_rows, .inl (cI, 7, .inl p0_rows)), (h_p2, .inl (cI, 7, .inl (upd p2 (Int32.toNatClampNeg v3) v5)))] H := hP
            have hD : va_D A [(h_p0, .inr (0, [.int p0_many, .ref h_p0_rows])), (h_p0_rows, .inl (cI, 7, .inl p0_rows)), (h_p2, .inl (cI, 7, .inl (upd p2 (Int32.toNatClampNeg v3) v5)))] := hD
            refine lv_aload_n hx hb dX2_canGoOn_49 rfl (lv_at hl 0 rfl) ?_
            refine lv_aload_n hx hb dX2_canGoOn_50 rfl (lv_at hl 1 rfl) ?_
            refine lv_aload_n hx hb dX2_canGoOn_51 rfl (lv_at hl 2 rfl) ?_
            refine lv_iload_n hx hb dX2_canGoOn_52 rfl (lv_at hl 3 rfl) ?_
            refine lv_iconst (v := 1) hx hb dX2_canGoOn_53 (by decide) ?_
            refine lv_iadd hx hb dX2_canGoOn_54 ?_
            refine lv_iload hx hb dX2_canGoOn_55 (lv_at hl 4 rfl) ?_
            refine lv_iconst (v := 1) hx hb dX2_canGoOn_57 (by decide) ?_
            refine lv_iload hx hb dX2_canGoOn_58 (lv_at hl 5 rfl) ?_
            refine lv_ishl hx hb dX2_canGoOn_60 ?_
            refine lv_ior hx hb dX2_canGoOn_61 ?_
            obtain ⟨q_9, hq_9, hM⟩ := on_bind hM
            refine on_callS (rest := []) (As := [.ref h_p0, .ref h_p0, .ref h_p2, .int (v3 + (1 : Int32)), .int (v4 ||| ((1 : Int32) <<< (v5 &&& 31)))]) (st1 := [.int q_9.1]) (wc := [(h_p0, .inr (0, [.int p0_many, .ref h_p0_rows])), (h_p0_rows, .inl (cI, 7, .inl p0_rows)), (h_p2, .inl (cI, 7, .inl (upd p2 (Int32.toNatClampNeg v3) v5)))]) (wr := []) (wc' := [(h_p0, .inr (0, [.int p0_many, .ref h_p0_rows])), (h_p0_rows, .inl (cI, 7, .inl p0_rows)), (h_p2, .inl (cI, 7, .inl q_9.2))]) (wf := [(h_p0, .inr (0, [.int p0_many, .ref h_p0_rows])), (h_p0_rows, .inl (cI, 7, .inl p0_rows)), (h_p2, .inl (cI, 7, .inl q_9.2))]) (rt := (some (.int q_9.1))) ⟨hx, hb, hml, hown, hts⟩ (ihd h_p0 h_p0_rows h_p2 p0_many p0_rows (upd p2 (Int32.toNatClampNeg v3) v5) (v3 + (1 : Int32)) (v4 ||| ((1 : Int32) <<< (v5 &&& 31))) q_9 hq_9) (va_cwS 5 hts gX2_canGoOn_X2_canGoOn rfl rfl rfl hdX2_canGoOn ⟨Nat.le_refl _, rrl_X2_canGoOn_aa d⟩) hK hN hP hD hS hA [0, 1, 2] [] [0, 1, 2] rfl rfl rfl rfl (by decide) rfl rfl rfl hl.1 rfl (Nat.le_of_ble_eq_true rfl) rfl dX2_canGoOn_62 ⟨Nat.zero_le _, Nat.zero_le _⟩ (fun H locs hP hD hS => ?_)
            refine lv_if_eq (tgt := 70) hx hb dX2_canGoOn_65 (by decide) (fun c_10 => ?_) (fun c_10 => ?_)
            · have hM := on_pos c_10 hM
              obtain ⟨v5_11, ev5_11⟩ : ∃ z : Int32, z = v5 + 1 := ⟨_, rfl⟩
              have hM := on_letE ev5_11 hM
              refine lv_iinc (v := v5_11) (lv' := [(5, .int v5_11), (0, .ref h_p0), (1, .ref h_p0), (2, .ref h_p2), (3, .int v3), (4, .int v4)]) hx hb dX2_canGoOn_70 hl (k := 5) rfl (by rw [ev5_11]; rfl) (by decide) rfl (fun ls hl => ?_)
              refine lv_goto (tgt := 13) hx hb dX2_canGoOn_73 (by decide) ?_
              have hk := on_nxL hM hk
              exact ih v5_11 q_9.2 _ hk K1 K2 _ _ hP hD hS ls (lv_sub hl [1, 2, 3, 4, 5, 0] rfl)
            · have hM := on_neg c_10 hM
              refine lv_iconst (v := 1) hx hb dX2_canGoOn_68 (by decide) ?_
              have hk := on_nxR hM hk
              subst hk
              have ho := K2 _ rfl
              subst ho
              rw [← hQ]
              exact on_zret hx hb hr hlk hP hD hS rfl dX2_canGoOn_69
  refine lv_iload_n hx hb dX2_canGoOn_0 rfl (lv_at hl 3 rfl) ?_
  refine lv_aload_n hx hb dX2_canGoOn_1 rfl (lv_at hl 0 rfl) ?_
  refine va_getN (D := D) (ci := 0) (v := .int p0_many) (C := RX0) (T := TX0) (N := 2) hx hb hts w1 hown hK hP 0 rfl rfl 0 (by decide) (va_Nw.use rfl (hN _ (List.mem_of_getElem? (i := 3) rfl))) (fun _ h9 => h9) rfl dX2_canGoOn_2 ?_
  refine lv_icmp_lt (tgt := 10) hx hb dX2_canGoOn_5 (by decide) (fun c_1 => ?_) (fun c_1 => ?_)
  · have hM := on_pos c_1 hM
    refine lv_iconst (v := 0) hx hb dX2_canGoOn_10 (by decide) ?_
    refine lv_istore (lv' := [(5, .int (0 : Int32)), (0, .ref h_p0), (1, .ref h_p0), (2, .ref h_p2), (3, .int v3), (4, .int v4)]) hx hb dX2_canGoOn_11 hl (by decide) rfl (fun ls hl => ?_)
    obtain ⟨q_12, hq_12, hM⟩ := on_bind hM
    refine lp_13 v3 v4 on_F (0 : Int32) p2 q_12 hq_12 (fun u_13 hv H locs hP hD hS ls hl => ?_) (fun o ho => ?_) H locs hP hD hS ls (lv_sub hl [1, 2, 3, 4, 5, 0] rfl)
    · subst hv
      have hM := on_elR hM
      refine lv_iconst (v := 0) hx hb dX2_canGoOn_76 (by decide) ?_
      have hM := Option.some.inj hM
      subst hM
      rw [← hQ]
      exact on_zret hx hb hr hlk hP hD hS rfl dX2_canGoOn_77
    · subst ho
      have hM := on_elL hM
      exact Option.some.inj hM
  · have hM := on_neg c_1 hM
    refine lv_iconst (v := 1) hx hb dX2_canGoOn_8 (by decide) ?_
    have hM := Option.some.inj hM
    subst hM
    rw [← hQ]
    exact on_zret hx hb hr hlk hP hD hS rfl dX2_canGoOn_9
abbrev rm_X2_placesOf : Room := { frames := 13, cells := 0, slots := 0, locals := 316 }
set_option maxHeartbeats 4000000 in
set_option maxRecDepth 100000 in
theorem k_X2_placesOf {l : Launch} {D : va_G} {cI cJ cZ cS cA : ClassId} (h_t : Nat) (h_t_at : Nat) (h_p0 : Nat) (h_p0_rows : Nat) (t_at : Nat → Int32) (p0_many : Int32) (p0_rows : Nat → Int32) (v2 : Int32) (out : Int32 × (Nat → Int32)) (hM : M_X2_placesOf v2 t_at p0_many p0_rows = some out) : on_Con l yX2_placesOf wsX2_placesOf rm_X2_placesOf [.ref h_t, .ref h_p0, .int v2] D (on_T cI cJ cZ cS cA) [(h_t, .inr (2, [.ref h_t_at])), (h_t_at, .inl (cI, 7, .inl t_at)), (h_p0, .inr (0, [.int p0_many, .ref h_p0_rows])), (h_p0_rows, .inl (cI, 7, .inl p0_rows))] (some (.int out.1)) [(h_t, .inr (2, [.ref h_t_at])), (h_t_at, .inl (cI, 7, .inl out.2)), (h_p0, .inr (0, [.int p0_many, .ref h_p0_rows])), (h_p0_rows, .inl (cI, 7, .inl p0_rows))] := by
  unfold M_X2_placesOf at hM
  refine on_enter (cc := cX2_placesOf) (nL := 6) (rt := (some .int)) (own := RX2) (by decide +kernel) rfl rfl (Nat.le_of_ble_eq_true rfl) ?_
  intro p e s m below meth c A ls hx hb hml hr hlk hts hown hA hK hN H locs hP hD hS hl
  have hl : lv_has ls 6 [(0, .ref h_t), (1, .ref h_p0), (2, .int v2)] := hl
  generalize hQ : MQ below (on_Q D (some (.int out.1)) [(h_t, .inr (2, [.ref h_t_at])), (h_t_at, .inl (cI, 7, .inl out.2)), (h_p0, .inr (0, [.int p0_many, .ref h_p0_rows])), (h_p0_rows, .inl (cI, 7, .inl p0_rows))] A) _ s 0 0 A = Q
  generalize hAr : List.toArray ([.ref h_t, .ref h_p0, .int v2] : List Value) = args at hts hQ ⊢
  have w1 : ∀ w ∈ wsX00, w ∈ wsX2_placesOf := by decide +kernel
  have w2 := hts (.fieldLink RX2 9 "OddNets$Renumbering" "at" "[I") (by decide +kernel)
  have w3 : ∀ w ∈ wsX20, w ∈ wsX2_placesOf := by decide +kernel
  have lp_12 : ∀ (v2 : Int32) (v3 : Int32), ∀ (n : Nat) (v4 : Int32) (v5 : Int32) (t_at : Nat → Int32) (x : Int32 × (Nat → Int32)), on_loop (fun (s : Int32 × Int32 × (Nat → Int32)) => B_X2_placesOf_12 v2 v3 p0_many p0_rows s.1 s.2.1 s.2.2) n (v4, v5, t_at) = some x → (∀ (H : Heap) (locs : List Loc), va_P D vwCl [(h_t, .inr (2, [.ref h_t_at])), (h_t_at, .inl (cI, 7, .inl x.2)), (h_p0, .inr (0, [.int p0_many, .ref h_p0_rows])), (h_p0_rows, .inl (cI, 7, .inl p0_rows))] H → va_D A [(h_t, .inr (2, [.ref h_t_at])), (h_t_at, .inl (cI, 7, .inl x.2)), (h_p0, .inr (0, [.int p0_many, .ref h_p0_rows])), (h_p0_rows, .inl (cI, 7, .inl p0_rows))] → va_S A s.heap H locs → ∀ ls : Array Slot, lv_has ls 6 [(4, .int x.1)] → W p l e rm_X2_placesOf s m args below meth c H locs 0 0 Q (F0 m 74 ls [])) → ∀ (H : Heap) (locs : List Loc), va_P D vwCl [(h_t, .inr (2, [.ref h_t_at])), (h_t_at, .inl (cI, 7, .inl t_at)), (h_p0, .inr (0, [.int p0_many, .ref h_p0_rows])), (h_p0_rows, .inl (cI, 7, .inl p0_rows))] H → va_D A [(h_t, .inr (2, [.ref h_t_at])), (h_t_at, .inl (cI, 7, .inl t_at)), (h_p0, .inr (0, [.int p0_many, .ref h_p0_rows])), (h_p0_rows, .inl (cI, 7, .inl p0_rows))] → va_S A s.heap H locs → ∀ ls : Array Slot, lv_has ls 6 [(0, .ref h_t), (1, .ref h_p0), (2, .int v2), (3, .int v3), (4, .int v4), (5, .int v5)] → W p l e rm_X2_placesOf s m args below meth c H locs 0 0 Q (F0 m 12 ls []) := by
    intro v2 v3
    intro n
    induction n with
    | zero =>
      intro v4 v5 t_at x hL
      exact (on_loop0 hL).elim
    | succ n ih =>
      intro v4 v5 t_at x hL K1 H locs hP hD hS ls hl
      obtain ⟨y, hM, hk⟩ := on_loopE hL
      have hM : B_X2_placesOf_12 v2 v3 p0_many p0_rows v4 v5 t_at = some y := hM
      unfold B_X2_placesOf_12 at hM
      refine lv_iload hx hb dX2_placesOf_12 (lv_at hl 5 rfl) ?_
      refine lv_aload_n hx hb dX2_placesOf_14 rfl (lv_at hl 1 rfl) ?_
      refine va_getN (D := D) (ci := 0) (v := .int p0_many) (C := RX0) (T := TX0) (N := 2) hx hb hts w1 hown hK hP 2 rfl rfl 0 (by decide) (va_Nw.use rfl (hN _ (List.mem_of_getElem? (i := 3) rfl))) (fun _ h9 => h9) rfl dX2_placesOf_15 ?_
      refine lv_icmp_ge (tgt := 74) hx hb dX2_placesOf_18 (by decide) (fun c_2 => ?_) (fun c_2 => ?_)
      · have hM := on_pos c_2 hM
        have hk := on_nxR hM hk
        subst hk
        exact K1 _ _ hP hD hS ls (lv_sub hl [4] rfl)
      · have hM := on_neg c_2 hM
        refine lv_aload_n hx hb dX2_placesOf_21 rfl (lv_at hl 1 rfl) ?_
        refine lv_aload_n hx hb dX2_placesOf_22 rfl (lv_at hl 1 rfl) ?_
        refine lv_aload_n hx hb dX2_placesOf_23 rfl (lv_at hl 0 rfl) ?_
        refine va_get (D := D) (ci := 2) (v := .ref h_t_at) (C := RX2) (T := TX2) (N := 1) hx hb hts w3 hown hK hP 0 rfl rfl 0 (by decide) w2 (fun _ h9 => h9) rfl dX2_placesOf_24 ?_
        refine lv_iload_n hx hb dX2_placesOf_27 rfl (lv_at hl 2 rfl) ?_
        refine lv_iload hx hb dX2_placesOf_28 (lv_at hl 5 rfl) ?_
        obtain ⟨q_3, hq_3, hM⟩ := on_bind hM
        refine on_callS (rest := []) (As := [.ref h_p0, .ref h_p0, .ref h_t_at, .int v2, .int v5]) (st1 := [.int q_3]) (wc := [(h_p0, .inr (0, [.int p0_many, .ref h_p0_rows])), (h_p0_rows, .inl (cI, 7, .inl p0_rows)), (h_t_at, .inl (cI, 7, .inl t_at))]) (wr := [(h_t, .inr (2, [.ref h_t_at]))]) (wc' := [(h_p0, .inr (0, [.int p0_many, .ref h_p0_rows])), (h_p0_rows, .inl (cI, 7, .inl p0_rows)), (h_t_at, .inl (cI, 7, .inl t_at))]) (wf := [(h_t, .inr (2, [.ref h_t_at])), (h_t_at, .inl (cI, 7, .inl t_at)), (h_p0, .inr (0, [.int p0_many, .ref h_p0_rows])), (h_p0_rows, .inl (cI, 7, .inl p0_rows))]) (rt := (some (.int q_3))) ⟨hx, hb, hml, hown, hts⟩ (k_X2_goesTo_aa h_p0 h_p0_rows h_t_at p0_many p0_rows t_at v2 v5 q_3 hq_3) (va_cwS 5 hts gX2_placesOf_X2_goesTo rfl rfl rfl hdX2_goesTo ⟨(Nat.le_of_ble_eq_true rfl), (Nat.le_of_ble_eq_true rfl)⟩) hK hN hP hD hS hA [2, 3, 1] [0] [0, 3, 1, 2] rfl rfl rfl rfl (by decide) rfl rfl rfl hl.1 rfl (Nat.le_of_ble_eq_true rfl) rfl dX2_placesOf_30 ⟨Nat.zero_le _, Nat.zero_le _⟩ (fun H locs hP hD hS => ?_)
        refine lv_if_eq (tgt := 68) hx hb dX2_placesOf_33 (by decide) (fun c_4 => ?_) (fun c_4 => ?_)
        · have hM := on_pos c_4 hM
          obtain ⟨v5_5, ev5_5⟩ : ∃ z : Int32, z = v5 + 1 := ⟨_, rfl⟩
          have hM := on_letE ev5_5 hM
          refine lv_iinc (v := v5_5) (lv' := [(5, .int v5_5), (0, .ref h_t), (1, .ref h_p0), (2, .int v2), (3, .int v3), (4, .int v4)]) hx hb dX2_placesOf_68 hl (k := 5) rfl (by rw [ev5_5]; rfl) (by decide) rfl (fun ls hl => ?_)
          refine lv_goto (tgt := 12) hx hb dX2_placesOf_71 (by decide) ?_
          have hk := on_nxL hM hk
          exact ih v4 v5_5 t_at _ hk K1 _ _ hP hD hS ls (lv_sub hl [1, 2, 3, 4, 5, 0] rfl)
        · have hM := on_neg c_4 hM
          refine lv_aload_n hx hb dX2_placesOf_36 rfl (lv_at hl 0 rfl) ?_
          refine va_get (D := D) (ci := 2) (v := .ref h_t_at) (C := RX2) (T := TX2) (N := 1) hx hb hts w3 hown hK hP 0 rfl rfl 0 (by decide) w2 (fun _ h9 => h9) rfl dX2_placesOf_37 ?_
          refine lv_iload_n hx hb dX2_placesOf_40 rfl (lv_at hl 2 rfl) ?_
          refine lv_iload hx hb dX2_placesOf_41 (lv_at hl 5 rfl) ?_
          obtain ⟨g_6, hM⟩ := on_gdE hM
          refine va_iast hx hb hK hP hD hS 1 0 rfl rfl (on_ixE g_6) dX2_placesOf_43 (fun H locs hP hD hS => ?_)
          have hP : va_P D vwCl [(h_t, .inr (2, [.ref h_t_at])), (h_t_at, .inl (cI, 7, .inl (upd t_at (Int32.toNatClampNeg v2) v5))), (h_p0, .inr (0, [.int p0_many, .ref h_p0_rows])), (h_p0_rows, .inl (cI, 7, .inl p0_rows))] H := hP
          have hD : va_D A [(h_t, .inr (2, [.ref h_t_at])), (h_t_at, .inl (cI, 7, .inl (upd t_at (Int32.toNatClampNeg v2) v5))), (h_p0, .inr (0, [.int p0_many, .ref h_p0_rows])), (h_p0_rows, .inl (cI, 7, .inl p0_rows))] := hD
          refine lv_aload_n hx hb dX2_placesOf_44 rfl (lv_at hl 1 rfl) ?_
          refine lv_aload_n hx hb dX2_placesOf_45 rfl (lv_at hl 1 rfl) ?_
          refine lv_aload_n hx hb dX2_placesOf_46 rfl (lv_at hl 0 rfl) ?_
          refine va_get (D := D) (ci := 2) (v := .ref h_t_at) (C := RX2) (T := TX2) (N := 1) hx hb hts w3 hown hK hP 0 rfl rfl 0 (by decide) w2 (fun _ h9 => h9) rfl dX2_placesOf_47 ?_
          refine lv_iload_n hx hb dX2_placesOf_50 rfl (lv_at hl 2 rfl) ?_
          refine lv_iconst (v := 1) hx hb dX2_placesOf_51 (by decide) ?_
          refine lv_iadd hx hb dX2_placesOf_52 ?_
          refine lv_iload_n hx hb dX2_placesOf_53 rfl (lv_at hl 3 rfl) ?_
          refine lv_iconst (v := 1) hx hb dX2_placesOf_54 (by decide) ?_
          refine lv_iload hx hb dX2_placesOf_55 (lv_at hl 5 rfl) ?_
          refine lv_ishl hx hb dX2_placesOf_57 ?_
          refine lv_ior hx hb dX2_placesOf_58 ?_
          obtain ⟨q_7, hq_7, hM⟩ := on_bind hM
          refine on_callS (rest := []) (As := [.ref h_p0, .ref h_p0, .ref h_t_at, .int (v2 + (1 : Int32)), .int (v3 ||| ((1 : Int32) <<< (v5 &&& 31)))]) (st1 := [.int q_7.1]) (wc := [(h_p0, .inr (0, [.int p0_many, .ref h_p0_rows])), (h_p0_rows, .inl (cI, 7, .inl p0_rows)), (h_t_at, .inl (cI, 7, .inl (upd t_at (Int32.toNatClampNeg v2) v5)))]) (wr := [(h_t, .inr (2, [.ref h_t_at]))]) (wc' := [(h_p0, .inr (0, [.int p0_many, .ref h_p0_rows])), (h_p0_rows, .inl (cI, 7, .inl p0_rows)), (h_t_at, .inl (cI, 7, .inl q_7.2))]) (wf := [(h_t, .inr (2, [.ref h_t_at])), (h_t_at, .inl (cI, 7, .inl q_7.2)), (h_p0, .inr (0, [.int p0_many, .ref h_p0_rows])), (h_p0_rows, .inl (cI, 7, .inl p0_rows))]) (rt := (some (.int q_7.1))) ⟨hx, hb, hml, hown, hts⟩ (k_X2_canGoOn_aa on_dep h_p0 h_p0_rows h_t_at p0_many p0_rows (upd t_at (Int32.toNatClampNeg v2) v5) (v2 + (1 : Int32)) (v3 ||| ((1 : Int32) <<< (v5 &&& 31))) q_7 hq_7) (va_cwS 5 hts gX2_placesOf_X2_canGoOn rfl rfl rfl hdX2_canGoOn ⟨(Nat.le_of_ble_eq_true rfl), (Nat.le_of_ble_eq_true rfl)⟩) hK hN hP hD hS hA [2, 3, 1] [0] [0, 3, 1, 2] rfl rfl rfl rfl (by decide) rfl rfl rfl hl.1 rfl (Nat.le_of_ble_eq_true rfl) rfl dX2_placesOf_59 ⟨Nat.zero_le _, Nat.zero_le _⟩ (fun H locs hP hD hS => ?_)
          refine lv_if_eq (tgt := 68) hx hb dX2_placesOf_62 (by decide) (fun c_8 => ?_) (fun c_8 => ?_)
          · have hM := on_pos c_8 hM
            obtain ⟨v5_9, ev5_9⟩ : ∃ z : Int32, z = v5 + 1 := ⟨_, rfl⟩
            have hM := on_letE ev5_9 hM
            refine lv_iinc (v := v5_9) (lv' := [(5, .int v5_9), (0, .ref h_t), (1, .ref h_p0), (2, .int v2), (3, .int v3), (4, .int v4)]) hx hb dX2_placesOf_68 hl (k := 5) rfl (by rw [ev5_9]; rfl) (by decide) rfl (fun ls hl => ?_)
            refine lv_goto (tgt := 12) hx hb dX2_placesOf_71 (by decide) ?_
            have hk := on_nxL hM hk
            exact ih v4 v5_9 q_7.2 _ hk K1 _ _ hP hD hS ls (lv_sub hl [1, 2, 3, 4, 5, 0] rfl)
          · have hM := on_neg c_8 hM
            obtain ⟨v4_10, ev4_10⟩ : ∃ z : Int32, z = v4 + 1 := ⟨_, rfl⟩
            have hM := on_letE ev4_10 hM
            refine lv_iinc (v := v4_10) (lv' := [(4, .int v4_10), (0, .ref h_t), (1, .ref h_p0), (2, .int v2), (3, .int v3), (5, .int v5)]) hx hb dX2_placesOf_65 hl (k := 4) rfl (by rw [ev4_10]; rfl) (by decide) rfl (fun ls hl => ?_)
            obtain ⟨v5_11, ev5_11⟩ : ∃ z : Int32, z = v5 + 1 := ⟨_, rfl⟩
            have hM := on_letE ev5_11 hM
            refine lv_iinc (v := v5_11) (lv' := [(5, .int v5_11), (4, .int v4_10), (0, .ref h_t), (1, .ref h_p0), (2, .int v2), (3, .int v3)]) hx hb dX2_placesOf_68 hl (k := 5) rfl (by rw [ev5_11]; rfl) (by decide) rfl (fun ls hl => ?_)
            refine lv_goto (tgt := 12) hx hb dX2_placesOf_71 (by decide) ?_
            have hk := on_nxL hM hk
            exact ih v4_10 v5_11 q_7.2 _ hk K1 _ _ hP hD hS ls (lv_sub hl [2, 3, 4, 5, 1, 0] rfl)
  refine lv_iconst (v := 1) hx hb dX2_placesOf_0 (by decide) ?_
  refine lv_iload_n hx hb dX2_placesOf_1 rfl (lv_at hl 2 rfl) ?_
  refine lv_ishl hx hb dX2_placesOf_2 ?_
  refine lv_iconst (v := 1) hx hb dX2_placesOf_3 (by decide) ?_
  refine lv_isub hx hb dX2_placesOf_4 ?_
  refine lv_topi (fun v3_1 ev3_1 => ?_)
  have hM := on_letE ev3_1 hM
  refine lv_istore_n (lv' := [(3, .int v3_1), (0, .ref h_t), (1, .ref h_p0), (2, .int v2)]) hx hb dX2_placesOf_5 rfl hl (by decide) rfl (fun ls hl => ?_)
  refine lv_iconst (v := 0) hx hb dX2_placesOf_6 (by decide) ?_
  refine lv_istore (lv' := [(4, .int (0 : Int32)), (3, .int v3_1), (0, .ref h_t), (1, .ref h_p0), (2, .int v2)]) hx hb dX2_placesOf_7 hl (by decide) rfl (fun ls hl => ?_)
  refine lv_iload_n hx hb dX2_placesOf_9 rfl (lv_at hl 4 rfl) ?_
  refine lv_istore (lv' := [(5, .int v2), (4, .int (0 : Int32)), (3, .int v3_1), (0, .ref h_t), (1, .ref h_p0), (2, .int v2)]) hx hb dX2_placesOf_10 hl (by decide) rfl (fun ls hl => ?_)
  obtain ⟨q_12, hq_12, hM⟩ := on_bind hM
  refine lp_12 v2 v3_1 on_F (0 : Int32) v2 t_at q_12 hq_12 (fun H locs hP hD hS ls hl => ?_) H locs hP hD hS ls (lv_sub hl [3, 4, 5, 2, 1, 0] rfl)
  refine lv_iload hx hb dX2_placesOf_74 (lv_at hl 0 rfl) ?_
  have hM := Option.some.inj hM
  subst hM
  rw [← hQ]
  exact on_iret hx hb hr hlk hP hD hS dX2_placesOf_76
abbrev rm_X2_keepersOfNet : Room := { frames := 14, cells := 0, slots := 0, locals := 341 }
set_option maxHeartbeats 4000000 in
set_option maxRecDepth 100000 in
theorem k_X2_keepersOfNet {l : Launch} {D : va_G} {cI cJ cZ cS cA : ClassId} (h_t : Nat) (h_t_at : Nat) (h_p0 : Nat) (h_p0_rows : Nat) (t_at : Nat → Int32) (p0_many : Int32) (p0_rows : Nat → Int32) (v2 : Int32) (out : Int32 × (Nat → Int32)) (hM : M_X2_keepersOfNet v2 t_at p0_many p0_rows = some out) : on_Con l yX2_keepersOfNet wsX2_keepersOfNet rm_X2_keepersOfNet [.ref h_t, .ref h_p0, .int v2] D (on_T cI cJ cZ cS cA) [(h_t, .inr (2, [.ref h_t_at])), (h_t_at, .inl (cI, 7, .inl t_at)), (h_p0, .inr (0, [.int p0_many, .ref h_p0_rows])), (h_p0_rows, .inl (cI, 7, .inl p0_rows))] (some (.int out.1)) [(h_t, .inr (2, [.ref h_t_at])), (h_t_at, .inl (cI, 7, .inl out.2)), (h_p0, .inr (0, [.int p0_many, .ref h_p0_rows])), (h_p0_rows, .inl (cI, 7, .inl p0_rows))] := by
  unfold M_X2_keepersOfNet at hM
  refine on_enter (cc := cX2_keepersOfNet) (nL := 5) (rt := (some .int)) (own := RX2) (by decide +kernel) rfl rfl (Nat.le_of_ble_eq_true rfl) ?_
  intro p e s m below meth c A ls hx hb hml hr hlk hts hown hA hK hN H locs hP hD hS hl
  have hl : lv_has ls 5 [(0, .ref h_t), (1, .ref h_p0), (2, .int v2)] := hl
  generalize hQ : MQ below (on_Q D (some (.int out.1)) [(h_t, .inr (2, [.ref h_t_at])), (h_t_at, .inl (cI, 7, .inl out.2)), (h_p0, .inr (0, [.int p0_many, .ref h_p0_rows])), (h_p0_rows, .inl (cI, 7, .inl p0_rows))] A) _ s 0 0 A = Q
  generalize hAr : List.toArray ([.ref h_t, .ref h_p0, .int v2] : List Value) = args at hts hQ ⊢
  have w1 := hts (.fieldLink RX2 9 "OddNets$Renumbering" "at" "[I") (by decide +kernel)
  have w2 : ∀ w ∈ wsX20, w ∈ wsX2_keepersOfNet := by decide +kernel
  have w3 : ∀ w ∈ wsX00, w ∈ wsX2_keepersOfNet := by decide +kernel
  have lp_2 : ∀ (v2 : Int32), ∀ (n : Nat) (v3 : Int32) (t_at : Nat → Int32) (x : (Nat → Int32)), on_loop (fun (s : Int32 × (Nat → Int32)) => B_X2_keepersOfNet_2 v2 s.1 s.2) n (v3, t_at) = some x → (∀ (H : Heap) (locs : List Loc), va_P D vwCl [(h_t, .inr (2, [.ref h_t_at])), (h_t_at, .inl (cI, 7, .inl x)), (h_p0, .inr (0, [.int p0_many, .ref h_p0_rows])), (h_p0_rows, .inl (cI, 7, .inl p0_rows))] H → va_D A [(h_t, .inr (2, [.ref h_t_at])), (h_t_at, .inl (cI, 7, .inl x)), (h_p0, .inr (0, [.int p0_many, .ref h_p0_rows])), (h_p0_rows, .inl (cI, 7, .inl p0_rows))] → va_S A s.heap H locs → ∀ ls : Array Slot, lv_has ls 5 [(0, .ref h_t), (1, .ref h_p0), (2, .int v2)] → W p l e rm_X2_keepersOfNet s m args below meth c H locs 0 0 Q (F0 m 20 ls [])) → ∀ (H : Heap) (locs : List Loc), va_P D vwCl [(h_t, .inr (2, [.ref h_t_at])), (h_t_at, .inl (cI, 7, .inl t_at)), (h_p0, .inr (0, [.int p0_many, .ref h_p0_rows])), (h_p0_rows, .inl (cI, 7, .inl p0_rows))] H → va_D A [(h_t, .inr (2, [.ref h_t_at])), (h_t_at, .inl (cI, 7, .inl t_at)), (h_p0, .inr (0, [.int p0_many, .ref h_p0_rows])), (h_p0_rows, .inl (cI, 7, .inl p0_rows))] → va_S A s.heap H locs → ∀ ls : Array Slot, lv_has ls 5 [(0, .ref h_t), (1, .ref h_p0), (2, .int v2), (3, .int v3)] → W p l e rm_X2_keepersOfNet s m args below meth c H locs 0 0 Q (F0 m 2 ls []) := by
    intro v2
    intro n
    induction n with
    | zero =>
      intro v3 t_at x hL
      exact (on_loop0 hL).elim
    | succ n ih =>
      intro v3 t_at x hL K1 H locs hP hD hS ls hl
      obtain ⟨y, hM, hk⟩ := on_loopE hL
      have hM : B_X2_keepersOfNet_2 v2 v3 t_at = some y := hM
      unfold B_X2_keepersOfNet_2 at hM
      refine lv_iload_n hx hb dX2_keepersOfNet_2 rfl (lv_at hl 3 rfl) ?_
      refine lv_iload_n hx hb dX2_keepersOfNet_3 rfl (lv_at hl 2 rfl) ?_
      refine lv_icmp_ge (tgt := 20) hx hb dX2_keepersOfNet_4 (by decide) (fun c_1 => ?_) (fun c_1 => ?_)
      · have hM := on_pos c_1 hM
        have hk := on_nxR hM hk
        subst hk
        exact K1 _ _ hP hD hS ls (lv_sub hl [0, 1, 2] rfl)
      · have hM := on_neg c_1 hM
        refine lv_aload_n hx hb dX2_keepersOfNet_7 rfl (lv_at hl 0 rfl) ?_
        refine va_get (D := D) (ci := 2) (v := .ref h_t_at) (C := RX2) (T := TX2) (N := 1) hx hb hts w2 hown hK hP 0 rfl rfl 0 (by decide) w1 (fun _ h9 => h9) rfl dX2_keepersOfNet_8 ?_
        refine lv_iload_n hx hb dX2_keepersOfNet_11 rfl (lv_at hl 3 rfl) ?_
        refine lv_iload_n hx hb dX2_keepersOfNet_12 rfl (lv_at hl 3 rfl) ?_
        obtain ⟨g_2, hM⟩ := on_gdE hM
        refine va_iast hx hb hK hP hD hS 1 0 rfl rfl (on_ixE g_2) dX2_keepersOfNet_13 (fun H locs hP hD hS => ?_)
        have hP : va_P D vwCl [(h_t, .inr (2, [.ref h_t_at])), (h_t_at, .inl (cI, 7, .inl (upd t_at (Int32.toNatClampNeg v3) v3))), (h_p0, .inr (0, [.int p0_many, .ref h_p0_rows])), (h_p0_rows, .inl (cI, 7, .inl p0_rows))] H := hP
        have hD : va_D A [(h_t, .inr (2, [.ref h_t_at])), (h_t_at, .inl (cI, 7, .inl (upd t_at (Int32.toNatClampNeg v3) v3))), (h_p0, .inr (0, [.int p0_many, .ref h_p0_rows])), (h_p0_rows, .inl (cI, 7, .inl p0_rows))] := hD
        obtain ⟨v3_3, ev3_3⟩ : ∃ z : Int32, z = v3 + 1 := ⟨_, rfl⟩
        have hM := on_letE ev3_3 hM
        refine lv_iinc (v := v3_3) (lv' := [(3, .int v3_3), (0, .ref h_t), (1, .ref h_p0), (2, .int v2)]) hx hb dX2_keepersOfNet_14 hl (k := 3) rfl (by rw [ev3_3]; rfl) (by decide) rfl (fun ls hl => ?_)
        refine lv_goto (tgt := 2) hx hb dX2_keepersOfNet_17 (by decide) ?_
        have hk := on_nxL hM hk
        exact ih v3_3 (upd t_at (Int32.toNatClampNeg v3) v3) _ hk K1 _ _ hP hD hS ls (lv_sub hl [1, 2, 3, 0] rfl)
  have lp_25 : ∀ (n : Nat) (v3 : Int32) (v4 : Int32) (t_at : Nat → Int32) (x : Int32 × (Nat → Int32)), on_loop (fun (s : Int32 × Int32 × (Nat → Int32)) => B_X2_keepersOfNet_25 p0_many p0_rows s.1 s.2.1 s.2.2) n (v3, v4, t_at) = some x → (∀ (H : Heap) (locs : List Loc), va_P D vwCl [(h_t, .inr (2, [.ref h_t_at])), (h_t_at, .inl (cI, 7, .inl x.2)), (h_p0, .inr (0, [.int p0_many, .ref h_p0_rows])), (h_p0_rows, .inl (cI, 7, .inl p0_rows))] H → va_D A [(h_t, .inr (2, [.ref h_t_at])), (h_t_at, .inl (cI, 7, .inl x.2)), (h_p0, .inr (0, [.int p0_many, .ref h_p0_rows])), (h_p0_rows, .inl (cI, 7, .inl p0_rows))] → va_S A s.heap H locs → ∀ ls : Array Slot, lv_has ls 5 [(3, .int x.1)] → W p l e rm_X2_keepersOfNet s m args below meth c H locs 0 0 Q (F0 m 59 ls [])) → ∀ (H : Heap) (locs : List Loc), va_P D vwCl [(h_t, .inr (2, [.ref h_t_at])), (h_t_at, .inl (cI, 7, .inl t_at)), (h_p0, .inr (0, [.int p0_many, .ref h_p0_rows])), (h_p0_rows, .inl (cI, 7, .inl p0_rows))] H → va_D A [(h_t, .inr (2, [.ref h_t_at])), (h_t_at, .inl (cI, 7, .inl t_at)), (h_p0, .inr (0, [.int p0_many, .ref h_p0_rows])), (h_p0_rows, .inl (cI, 7, .inl p0_rows))] → va_S A s.heap H locs → ∀ ls : Array Slot, lv_has ls 5 [(0, .ref h_t), (1, .ref h_p0), (3, .int v3), (4, .int v4)] → W p l e rm_X2_keepersOfNet s m args below meth c H locs 0 0 Q (F0 m 25 ls []) := by
    intro n
    induction n with
    | zero =>
      intro v3 v4 t_at x hL
      exact (on_loop0 hL).elim
    | succ n ih =>
      intro v3 v4 t_at x hL K1 H locs hP hD hS ls hl
      obtain ⟨y, hM, hk⟩ := on_loopE hL
      have hM : B_X2_keepersOfNet_25 p0_many p0_rows v3 v4 t_at = some y := hM
      unfold B_X2_keepersOfNet_25 at hM
      refine lv_iload hx hb dX2_keepersOfNet_25 (lv_at hl 3 rfl) ?_
      refine lv_aload_n hx hb dX2_keepersOfNet_27 rfl (lv_at hl 1 rfl) ?_
      refine va_getN (D := D) (ci := 0) (v := .int p0_many) (C := RX0) (T := TX0) (N := 2) hx hb hts w3 hown hK hP 2 rfl rfl 0 (by decide) (va_Nw.use rfl (hN _ (List.mem_of_getElem? (i := 3) rfl))) (fun _ h9 => h9) rfl dX2_keepersOfNet_28 ?_
      refine lv_icmp_ge (tgt := 59) hx hb dX2_keepersOfNet_31 (by decide) (fun c_5 => ?_) (fun c_5 => ?_)
      · have hM := on_pos c_5 hM
        have hk := on_nxR hM hk
        subst hk
        exact K1 _ _ hP hD hS ls (lv_sub hl [2] rfl)
      · have hM := on_neg c_5 hM
        refine lv_iload_n hx hb dX2_keepersOfNet_34 rfl (lv_at hl 2 rfl) ?_
        refine lv_aload_n hx hb dX2_keepersOfNet_35 rfl (lv_at hl 0 rfl) ?_
        refine lv_aload_n hx hb dX2_keepersOfNet_36 rfl (lv_at hl 1 rfl) ?_
        refine lv_iload hx hb dX2_keepersOfNet_37 (lv_at hl 3 rfl) ?_
        obtain ⟨q_6, hq_6, hM⟩ := on_bind hM
        refine on_callV (rest := [.int v3]) (As := [.ref h_p0, .int v4]) (st1 := [.int q_6.1, .int v3]) (C := RX2) (ci := 2) (q0 := 0) (wc := [(h_t, .inr (2, [.ref h_t_at])), (h_t_at, .inl (cI, 7, .inl t_at)), (h_p0, .inr (0, [.int p0_many, .ref h_p0_rows])), (h_p0_rows, .inl (cI, 7, .inl p0_rows))]) (wr := []) (wc' := [(h_t, .inr (2, [.ref h_t_at])), (h_t_at, .inl (cI, 7, .inl q_6.2)), (h_p0, .inr (0, [.int p0_many, .ref h_p0_rows])), (h_p0_rows, .inl (cI, 7, .inl p0_rows))]) (wf := [(h_t, .inr (2, [.ref h_t_at])), (h_t_at, .inl (cI, 7, .inl q_6.2)), (h_p0, .inr (0, [.int p0_many, .ref h_p0_rows])), (h_p0_rows, .inl (cI, 7, .inl p0_rows))]) (rt := (some (.int q_6.1))) ⟨hx, hb, hml, hown, hts⟩ (k_X2_placesOf h_t h_t_at h_p0 h_p0_rows t_at p0_many p0_rows v4 q_6 hq_6) (cwV 2 hts gX2_keepersOfNet_X2_placesOf rfl rfl rfl ⟨rfl, hdX2_placesOf⟩ ⟨(Nat.le_of_ble_eq_true rfl), (Nat.le_of_ble_eq_true rfl)⟩) hK hN hP hD hS hA [0, 1, 2, 3] [] [0, 1, 2, 3] rfl rfl rfl rfl (by decide) rfl rfl rfl rfl rfl rfl hl.1 rfl (Nat.le_of_ble_eq_true rfl) rfl dX2_keepersOfNet_39 ⟨Nat.zero_le _, Nat.zero_le _⟩ (fun H locs hP hD hS => ?_)
        refine lv_imul hx hb dX2_keepersOfNet_42 ?_
        refine lv_topi (fun v3_7 ev3_7 => ?_)
        have hM := on_letE ev3_7 hM
        refine lv_istore_n (lv' := [(3, .int v3_7), (0, .ref h_t), (1, .ref h_p0), (4, .int v4)]) hx hb dX2_keepersOfNet_43 rfl hl (by decide) rfl (fun ls hl => ?_)
        refine lv_aload_n hx hb dX2_keepersOfNet_44 rfl (lv_at hl 1 rfl) ?_
        refine va_get (D := D) (ci := 2) (v := .ref h_t_at) (C := RX2) (T := TX2) (N := 1) hx hb hts w2 hown hK hP 0 rfl rfl 0 (by decide) w1 (fun _ h9 => h9) rfl dX2_keepersOfNet_45 ?_
        refine lv_iload hx hb dX2_keepersOfNet_48 (lv_at hl 3 rfl) ?_
        refine lv_iload hx hb dX2_keepersOfNet_50 (lv_at hl 3 rfl) ?_
        obtain ⟨g_8, hM⟩ := on_gdE hM
        refine va_iast hx hb hK hP hD hS 1 0 rfl rfl (on_ixE g_8) dX2_keepersOfNet_52 (fun H locs hP hD hS => ?_)
        have hP : va_P D vwCl [(h_t, .inr (2, [.ref h_t_at])), (h_t_at, .inl (cI, 7, .inl (upd q_6.2 (Int32.toNatClampNeg v4) v4))), (h_p0, .inr (0, [.int p0_many, .ref h_p0_rows])), (h_p0_rows, .inl (cI, 7, .inl p0_rows))] H := hP
        have hD : va_D A [(h_t, .inr (2, [.ref h_t_at])), (h_t_at, .inl (cI, 7, .inl (upd q_6.2 (Int32.toNatClampNeg v4) v4))), (h_p0, .inr (0, [.int p0_many, .ref h_p0_rows])), (h_p0_rows, .inl (cI, 7, .inl p0_rows))] := hD
        obtain ⟨v4_9, ev4_9⟩ : ∃ z : Int32, z = v4 + 1 := ⟨_, rfl⟩
        have hM := on_letE ev4_9 hM
        refine lv_iinc (v := v4_9) (lv' := [(4, .int v4_9), (3, .int v3_7), (0, .ref h_t), (1, .ref h_p0)]) hx hb dX2_keepersOfNet_53 hl (k := 3) rfl (by rw [ev4_9]; rfl) (by decide) rfl (fun ls hl => ?_)
        refine lv_goto (tgt := 25) hx hb dX2_keepersOfNet_56 (by decide) ?_
        have hk := on_nxL hM hk
        exact ih v3_7 v4_9 (upd q_6.2 (Int32.toNatClampNeg v4) v4) _ hk K1 _ _ hP hD hS ls (lv_sub hl [2, 3, 1, 0] rfl)
  refine lv_iconst (v := 0) hx hb dX2_keepersOfNet_0 (by decide) ?_
  refine lv_istore_n (lv' := [(3, .int (0 : Int32)), (0, .ref h_t), (1, .ref h_p0), (2, .int v2)]) hx hb dX2_keepersOfNet_1 rfl hl (by decide) rfl (fun ls hl => ?_)
  obtain ⟨q_4, hq_4, hM⟩ := on_bind hM
  refine lp_2 v2 on_F (0 : Int32) t_at q_4 hq_4 (fun H locs hP hD hS ls hl => ?_) H locs hP hD hS ls (lv_sub hl [1, 2, 3, 0] rfl)
  refine lv_iconst (v := 1) hx hb dX2_keepersOfNet_20 (by decide) ?_
  refine lv_istore_n (lv' := [(3, .int (1 : Int32)), (0, .ref h_t), (1, .ref h_p0), (2, .int v2)]) hx hb dX2_keepersOfNet_21 rfl hl (by decide) rfl (fun ls hl => ?_)
  refine lv_iload_n hx hb dX2_keepersOfNet_22 rfl (lv_at hl 3 rfl) ?_
  refine lv_istore (lv' := [(4, .int v2), (3, .int (1 : Int32)), (0, .ref h_t), (1, .ref h_p0), (2, .int v2)]) hx hb dX2_keepersOfNet_23 hl (by decide) rfl (fun ls hl => ?_)
  obtain ⟨q_10, hq_10, hM⟩ := on_bind hM
  refine lp_25  on_F (1 : Int32) v2 q_4 q_10 hq_10 (fun H locs hP hD hS ls hl => ?_) H locs hP hD hS ls (lv_sub hl [2, 3, 1, 0] rfl)
  refine lv_iload_n hx hb dX2_keepersOfNet_59 rfl (lv_at hl 0 rfl) ?_
  have hM := Option.some.inj hM
  subst hM
  rw [← hQ]
  exact on_iret hx hb hr hlk hP hD hS dX2_keepersOfNet_60
abbrev rm_X2_keepersOfClass : Room := { frames := 15, cells := 0, slots := 0, locals := 365 }
set_option maxHeartbeats 4000000 in
set_option maxRecDepth 100000 in
theorem k_X2_keepersOfClass {l : Launch} {D : va_G} {cI cJ cZ cS cA : ClassId} (h_t : Nat) (h_t_at : Nat) (h_p0 : Nat) (h_p0_rows : Nat) (h_p1 : Nat) (h_p1_rows : Nat) (t_at : Nat → Int32) (p0_many : Int32) (p0_rows : Nat → Int32) (p1_many : Int32) (p1_rows : Nat → Int32)  (out : Int32 × (Nat → Int32) × (Nat → Int32) × Int32 × (Nat → Int32)) (hM : M_X2_keepersOfClass t_at p0_many p0_rows p1_many p1_rows = some out) : on_Con l yX2_keepersOfClass wsX2_keepersOfClass rm_X2_keepersOfClass [.ref h_t, .ref h_p0, .ref h_p1] D (on_T cI cJ cZ cS cA) [(h_t, .inr (2, [.ref h_t_at])), (h_t_at, .inl (cI, 7, .inl t_at)), (h_p0, .inr (0, [.int p0_many, .ref h_p0_rows])), (h_p0_rows, .inl (cI, 7, .inl p0_rows)), (h_p1, .inr (0, [.int p1_many, .ref h_p1_rows])), (h_p1_rows, .inl (cI, 7, .inl p1_rows))] (some (.int out.1)) [(h_t, .inr (2, [.ref h_t_at])), (h_t_at, .inl (cI, 7, .inl out.2.1)), (h_p0, .inr (0, [.int p0_many, .ref h_p0_rows])), (h_p0_rows, .inl (cI, 7, .inl out.2.2.1)), (h_p1, .inr (0, [.int out.2.2.2.1, .ref h_p1_rows])), (h_p1_rows, .inl (cI, 7, .inl out.2.2.2.2))] := by
  unfold M_X2_keepersOfClass at hM
  refine on_enter (cc := cX2_keepersOfClass) (nL := 5) (rt := (some .int)) (own := RX2) (by decide +kernel) rfl rfl (Nat.le_of_ble_eq_true rfl) ?_
  intro p e s m below meth c A ls hx hb hml hr hlk hts hown hA hK hN H locs hP hD hS hl
  have hl : lv_has ls 5 [(0, .ref h_t), (1, .ref h_p0), (2, .ref h_p1)] := hl
  generalize hQ : MQ below (on_Q D (some (.int out.1)) [(h_t, .inr (2, [.ref h_t_at])), (h_t_at, .inl (cI, 7, .inl out.2.1)), (h_p0, .inr (0, [.int p0_many, .ref h_p0_rows])), (h_p0_rows, .inl (cI, 7, .inl out.2.2.1)), (h_p1, .inr (0, [.int out.2.2.2.1, .ref h_p1_rows])), (h_p1_rows, .inl (cI, 7, .inl out.2.2.2.2))] A) _ s 0 0 A = Q
  generalize hAr : List.toArray ([.ref h_t, .ref h_p0, .ref h_p1] : List Value) = args at hts hQ ⊢
  have w1 := hts (.initialized RX0) (by decide +kernel)
  have w2 := hts (.instanceMethod yX0_leaveAlone) (by decide +kernel)
  have w3 := hts (.selects RX0 yX0_leaveAlone yX0_leaveAlone) (by decide +kernel)
  have w4 : ∀ w ∈ wsX00, w ∈ wsX2_keepersOfClass := by decide +kernel
  have w5 := hts (.instanceMethod yX0_copySwitched) (by decide +kernel)
  have w6 := hts (.selects RX0 yX0_copySwitched yX0_copySwitched) (by decide +kernel)
  have w7 := hts (.fieldLink RX2 9 "OddNets$Renumbering" "at" "[I") (by decide +kernel)
  have w8 : ∀ w ∈ wsX20, w ∈ wsX2_keepersOfClass := by decide +kernel
  have lp_10 : ∀ (p0_rows : Nat → Int32), ∀ (n : Nat) (v3 : Int32) (v4 : Int32) (t_at : Nat → Int32) (p1_many : Int32) (p1_rows : Nat → Int32) (x : Int32 × (Nat → Int32) × Int32 × (Nat → Int32)), on_loop (fun (s : Int32 × Int32 × (Nat → Int32) × Int32 × (Nat → Int32)) => B_X2_keepersOfClass_10 p0_many p0_rows s.1 s.2.1 s.2.2.1 s.2.2.2.1 s.2.2.2.2) n (v3, v4, t_at, p1_many, p1_rows) = some x → (∀ (H : Heap) (locs : List Loc), va_P D vwCl [(h_t, .inr (2, [.ref h_t_at])), (h_t_at, .inl (cI, 7, .inl x.2.1)), (h_p0, .inr (0, [.int p0_many, .ref h_p0_rows])), (h_p0_rows, .inl (cI, 7, .inl p0_rows)), (h_p1, .inr (0, [.int x.2.2.1, .ref h_p1_rows])), (h_p1_rows, .inl (cI, 7, .inl x.2.2.2))] H → va_D A [(h_t, .inr (2, [.ref h_t_at])), (h_t_at, .inl (cI, 7, .inl x.2.1)), (h_p0, .inr (0, [.int p0_many, .ref h_p0_rows])), (h_p0_rows, .inl (cI, 7, .inl p0_rows)), (h_p1, .inr (0, [.int x.2.2.1, .ref h_p1_rows])), (h_p1_rows, .inl (cI, 7, .inl x.2.2.2))] → va_S A s.heap H locs → ∀ ls : Array Slot, lv_has ls 5 [(0, .ref h_t), (1, .ref h_p0), (3, .int x.1)] → W p l e rm_X2_keepersOfClass s m args below meth c H locs 0 0 Q (F0 m 65 ls [])) → ∀ (H : Heap) (locs : List Loc), va_P D vwCl [(h_t, .inr (2, [.ref h_t_at])), (h_t_at, .inl (cI, 7, .inl t_at)), (h_p0, .inr (0, [.int p0_many, .ref h_p0_rows])), (h_p0_rows, .inl (cI, 7, .inl p0_rows)), (h_p1, .inr (0, [.int p1_many, .ref h_p1_rows])), (h_p1_rows, .inl (cI, 7, .inl p1_rows))] H → va_D A [(h_t, .inr (2, [.ref h_t_at])), (h_t_at, .inl (cI, 7, .inl t_at)), (h_p0, .inr (0, [.int p0_many, .ref h_p0_rows])), (h_p0_rows, .inl (cI, 7, .inl p0_rows)), (h_p1, .inr (0, [.int p1_many, .ref h_p1_rows])), (h_p1_rows, .inl (cI, 7, .inl p1_rows))] → va_S A s.heap H locs → ∀ ls : Array Slot, lv_has ls 5 [(0, .ref h_t), (1, .ref h_p0), (2, .ref h_p1), (3, .int v3), (4, .int v4)] → W p l e rm_X2_keepersOfClass s m args below meth c H locs 0 0 Q (F0 m 10 ls []) := by
    intro p0_rows
    intro n
    induction n with
    | zero =>
      intro v3 v4 t_at p1_many p1_rows x hL
      exact (on_loop0 hL).elim
    | succ n ih =>
      intro v3 v4 t_at p1_many p1_rows x hL K1 H locs hP hD hS ls hl
      obtain ⟨y, hM, hk⟩ := on_loopE hL
      have hM : B_X2_keepersOfClass_10 p0_many p0_rows v3 v4 t_at p1_many p1_rows = some y := hM
      unfold B_X2_keepersOfClass_10 at hM
      refine lv_iload hx hb dX2_keepersOfClass_10 (lv_at hl 4 rfl) ?_
      refine lv_aload_n hx hb dX2_keepersOfClass_12 rfl (lv_at hl 1 rfl) ?_
      refine va_getN (D := D) (ci := 0) (v := .int p0_many) (C := RX0) (T := TX0) (N := 2) hx hb hts w4 hown hK hP 2 rfl rfl 0 (by decide) (va_Nw.use rfl (hN _ (List.mem_of_getElem? (i := 3) rfl))) (fun _ h9 => h9) rfl dX2_keepersOfClass_13 ?_
      refine lv_icmp_ge (tgt := 65) hx hb dX2_keepersOfClass_16 (by decide) (fun c_2 => ?_) (fun c_2 => ?_)
      · have hM := on_pos c_2 hM
        have hk := on_nxR hM hk
        subst hk
        exact K1 _ _ hP hD hS ls (lv_sub hl [0, 1, 3] rfl)
      · have hM := on_neg c_2 hM
        refine lv_aload_n hx hb dX2_keepersOfClass_19 rfl (lv_at hl 2 rfl) ?_
        refine lv_aload_n hx hb dX2_keepersOfClass_20 rfl (lv_at hl 1 rfl) ?_
        refine lv_aload_n hx hb dX2_keepersOfClass_21 rfl (lv_at hl 1 rfl) ?_
        refine va_getN (D := D) (ci := 0) (v := .ref h_p0_rows) (C := RX0) (T := TX0) (N := 2) hx hb hts w4 hown hK hP 2 rfl rfl 1 (by decide) (va_Nw.use rfl (hN _ (List.mem_of_getElem? (i := 6) rfl))) (fun _ h9 => h9) rfl dX2_keepersOfClass_22 ?_
        refine lv_iload hx hb dX2_keepersOfClass_25 (lv_at hl 4 rfl) ?_
        obtain ⟨g_3, hM⟩ := on_gdE hM
        refine va_iald hx hb hK hP 3 0 rfl rfl (on_ixE g_3) dX2_keepersOfClass_27 ?_
        obtain ⟨q_4, hq_4, hM⟩ := on_bind hM
        refine on_callVN (rest := []) (As := [.ref h_p0, .int (p0_rows (Int32.toNatClampNeg v4))]) (st1 := []) (C := RX0) (ci := 0) (q0 := 4) (wc := [(h_p1, .inr (0, [.int p1_many, .ref h_p1_rows])), (h_p1_rows, .inl (cI, 7, .inl p1_rows)), (h_p0, .inr (0, [.int p0_many, .ref h_p0_rows])), (h_p0_rows, .inl (cI, 7, .inl p0_rows))]) (wr := [(h_t, .inr (2, [.ref h_t_at])), (h_t_at, .inl (cI, 7, .inl t_at))]) (wc' := [(h_p1, .inr (0, [.int q_4.1, .ref h_p1_rows])), (h_p1_rows, .inl (cI, 7, .inl q_4.2)), (h_p0, .inr (0, [.int p0_many, .ref h_p0_rows])), (h_p0_rows, .inl (cI, 7, .inl p0_rows))]) (wf := [(h_t, .inr (2, [.ref h_t_at])), (h_t_at, .inl (cI, 7, .inl t_at)), (h_p0, .inr (0, [.int p0_many, .ref h_p0_rows])), (h_p0_rows, .inl (cI, 7, .inl p0_rows)), (h_p1, .inr (0, [.int q_4.1, .ref h_p1_rows])), (h_p1_rows, .inl (cI, 7, .inl q_4.2))]) (rt := none) ⟨hx, hb, hml, hown, hts⟩ (k_X0_copySwitched h_p1 h_p1_rows h_p0 h_p0_rows p1_many p1_rows p0_many p0_rows (p0_rows (Int32.toNatClampNeg v4)) q_4 hq_4) ⟨va_cnB 2 hts gX2_keepersOfClass_X0_copySwitched_n67 rfl rfl rfl (hN _ (List.mem_of_getElem? (i := 48) rfl)) w1 hdX0_copySwitched ⟨(Nat.le_of_ble_eq_true rfl), (Nat.le_of_ble_eq_true rfl)⟩, w5, w6⟩ hK hN hP hD hS hA [4, 5, 2, 3] [0, 1] [0, 1, 4, 5, 2, 3] rfl rfl rfl rfl (by decide) rfl rfl rfl rfl rfl rfl hl.1 rfl (Nat.le_of_ble_eq_true rfl) rfl dX2_keepersOfClass_28 ⟨Nat.zero_le _, Nat.zero_le _⟩ (fun H locs hP hD hS => ?_)
        refine lv_aload_n hx hb dX2_keepersOfClass_31 rfl (lv_at hl 0 rfl) ?_
        refine va_get (D := D) (ci := 2) (v := .ref h_t_at) (C := RX2) (T := TX2) (N := 1) hx hb hts w8 hown hK hP 0 rfl rfl 0 (by decide) w7 (fun _ h9 => h9) rfl dX2_keepersOfClass_32 ?_
        refine lv_iconst (v := 0) hx hb dX2_keepersOfClass_35 (by decide) ?_
        refine lv_iload hx hb dX2_keepersOfClass_36 (lv_at hl 4 rfl) ?_
        obtain ⟨g_5, hM⟩ := on_gdE hM
        refine va_iast hx hb hK hP hD hS 1 0 rfl rfl (on_ixE g_5) dX2_keepersOfClass_38 (fun H locs hP hD hS => ?_)
        have hP : va_P D vwCl [(h_t, .inr (2, [.ref h_t_at])), (h_t_at, .inl (cI, 7, .inl (upd t_at (Int32.toNatClampNeg (0 : Int32)) v4))), (h_p0, .inr (0, [.int p0_many, .ref h_p0_rows])), (h_p0_rows, .inl (cI, 7, .inl p0_rows)), (h_p1, .inr (0, [.int q_4.1, .ref h_p1_rows])), (h_p1_rows, .inl (cI, 7, .inl q_4.2))] H := hP
        have hD : va_D A [(h_t, .inr (2, [.ref h_t_at])), (h_t_at, .inl (cI, 7, .inl (upd t_at (Int32.toNatClampNeg (0 : Int32)) v4))), (h_p0, .inr (0, [.int p0_many, .ref h_p0_rows])), (h_p0_rows, .inl (cI, 7, .inl p0_rows)), (h_p1, .inr (0, [.int q_4.1, .ref h_p1_rows])), (h_p1_rows, .inl (cI, 7, .inl q_4.2))] := hD
        refine lv_aload_n hx hb dX2_keepersOfClass_39 rfl (lv_at hl 1 rfl) ?_
        refine lv_aload_n hx hb dX2_keepersOfClass_40 rfl (lv_at hl 2 rfl) ?_
        refine lv_aload_n hx hb dX2_keepersOfClass_41 rfl (lv_at hl 0 rfl) ?_
        refine va_get (D := D) (ci := 2) (v := .ref h_t_at) (C := RX2) (T := TX2) (N := 1) hx hb hts w8 hown hK hP 0 rfl rfl 0 (by decide) w7 (fun _ h9 => h9) rfl dX2_keepersOfClass_42 ?_
        refine lv_iconst (v := 1) hx hb dX2_keepersOfClass_45 (by decide) ?_
        refine lv_iconst (v := 1) hx hb dX2_keepersOfClass_46 (by decide) ?_
        refine lv_iload hx hb dX2_keepersOfClass_47 (lv_at hl 4 rfl) ?_
        refine lv_ishl hx hb dX2_keepersOfClass_49 ?_
        obtain ⟨q_6, hq_6, hM⟩ := on_bind hM
        refine on_callS (rest := []) (As := [.ref h_p0, .ref h_p1, .ref h_t_at, .int (1 : Int32), .int ((1 : Int32) <<< (v4 &&& 31))]) (st1 := [.int q_6.1]) (wc := [(h_p0, .inr (0, [.int p0_many, .ref h_p0_rows])), (h_p0_rows, .inl (cI, 7, .inl p0_rows)), (h_p1, .inr (0, [.int q_4.1, .ref h_p1_rows])), (h_p1_rows, .inl (cI, 7, .inl q_4.2)), (h_t_at, .inl (cI, 7, .inl (upd t_at (Int32.toNatClampNeg (0 : Int32)) v4)))]) (wr := [(h_t, .inr (2, [.ref h_t_at]))]) (wc' := [(h_p0, .inr (0, [.int p0_many, .ref h_p0_rows])), (h_p0_rows, .inl (cI, 7, .inl p0_rows)), (h_p1, .inr (0, [.int q_4.1, .ref h_p1_rows])), (h_p1_rows, .inl (cI, 7, .inl q_4.2)), (h_t_at, .inl (cI, 7, .inl q_6.2))]) (wf := [(h_t, .inr (2, [.ref h_t_at])), (h_t_at, .inl (cI, 7, .inl q_6.2)), (h_p0, .inr (0, [.int p0_many, .ref h_p0_rows])), (h_p0_rows, .inl (cI, 7, .inl p0_rows)), (h_p1, .inr (0, [.int q_4.1, .ref h_p1_rows])), (h_p1_rows, .inl (cI, 7, .inl q_4.2))]) (rt := (some (.int q_6.1))) ⟨hx, hb, hml, hown, hts⟩ (k_X2_canGoOn on_dep h_p0 h_p0_rows h_p1 h_p1_rows h_t_at p0_many p0_rows q_4.1 q_4.2 (upd t_at (Int32.toNatClampNeg (0 : Int32)) v4) (1 : Int32) ((1 : Int32) <<< (v4 &&& 31)) q_6 hq_6) (va_cwS 5 hts gX2_keepersOfClass_X2_canGoOn rfl rfl rfl hdX2_canGoOn ⟨(Nat.le_of_ble_eq_true rfl), (Nat.le_of_ble_eq_true rfl)⟩) hK hN hP hD hS hA [2, 3, 4, 5, 1] [0] [0, 5, 1, 2, 3, 4] rfl rfl rfl rfl (by decide) rfl rfl rfl hl.1 rfl (Nat.le_of_ble_eq_true rfl) rfl dX2_keepersOfClass_50 ⟨Nat.zero_le _, Nat.zero_le _⟩ (fun H locs hP hD hS => ?_)
        refine lv_if_eq (tgt := 59) hx hb dX2_keepersOfClass_53 (by decide) (fun c_7 => ?_) (fun c_7 => ?_)
        · have hM := on_pos c_7 hM
          obtain ⟨v4_8, ev4_8⟩ : ∃ z : Int32, z = v4 + 1 := ⟨_, rfl⟩
          have hM := on_letE ev4_8 hM
          refine lv_iinc (v := v4_8) (lv' := [(4, .int v4_8), (0, .ref h_t), (1, .ref h_p0), (2, .ref h_p1), (3, .int v3)]) hx hb dX2_keepersOfClass_59 hl (k := 4) rfl (by rw [ev4_8]; rfl) (by decide) rfl (fun ls hl => ?_)
          refine lv_goto (tgt := 10) hx hb dX2_keepersOfClass_62 (by decide) ?_
          have hk := on_nxL hM hk
          exact ih v3 v4_8 q_6.2 q_4.1 q_4.2 _ hk K1 _ _ hP hD hS ls (lv_sub hl [1, 2, 3, 4, 0] rfl)
        · have hM := on_neg c_7 hM
          obtain ⟨v3_9, ev3_9⟩ : ∃ z : Int32, z = v3 + 1 := ⟨_, rfl⟩
          have hM := on_letE ev3_9 hM
          refine lv_iinc (v := v3_9) (lv' := [(3, .int v3_9), (0, .ref h_t), (1, .ref h_p0), (2, .ref h_p1), (4, .int v4)]) hx hb dX2_keepersOfClass_56 hl (k := 3) rfl (by rw [ev3_9]; rfl) (by decide) rfl (fun ls hl => ?_)
          obtain ⟨v4_10, ev4_10⟩ : ∃ z : Int32, z = v4 + 1 := ⟨_, rfl⟩
          have hM := on_letE ev4_10 hM
          refine lv_iinc (v := v4_10) (lv' := [(4, .int v4_10), (3, .int v3_9), (0, .ref h_t), (1, .ref h_p0), (2, .ref h_p1)]) hx hb dX2_keepersOfClass_59 hl (k := 4) rfl (by rw [ev4_10]; rfl) (by decide) rfl (fun ls hl => ?_)
          refine lv_goto (tgt := 10) hx hb dX2_keepersOfClass_62 (by decide) ?_
          have hk := on_nxL hM hk
          exact ih v3_9 v4_10 q_6.2 q_4.1 q_4.2 _ hk K1 _ _ hP hD hS ls (lv_sub hl [2, 3, 4, 1, 0] rfl)
  refine lv_aload_n hx hb dX2_keepersOfClass_0 rfl (lv_at hl 1 rfl) ?_
  refine lv_iconst (v := 0) hx hb dX2_keepersOfClass_1 (by decide) ?_
  obtain ⟨q_1, hq_1, hM⟩ := on_bind hM
  refine on_callVN (rest := []) (As := [.int (0 : Int32)]) (st1 := []) (C := RX0) (ci := 0) (q0 := 2) (wc := [(h_p0, .inr (0, [.int p0_many, .ref h_p0_rows])), (h_p0_rows, .inl (cI, 7, .inl p0_rows))]) (wr := [(h_t, .inr (2, [.ref h_t_at])), (h_t_at, .inl (cI, 7, .inl t_at)), (h_p1, .inr (0, [.int p1_many, .ref h_p1_rows])), (h_p1_rows, .inl (cI, 7, .inl p1_rows))]) (wc' := [(h_p0, .inr (0, [.int p0_many, .ref h_p0_rows])), (h_p0_rows, .inl (cI, 7, .inl q_1))]) (wf := [(h_t, .inr (2, [.ref h_t_at])), (h_t_at, .inl (cI, 7, .inl t_at)), (h_p0, .inr (0, [.int p0_many, .ref h_p0_rows])), (h_p0_rows, .inl (cI, 7, .inl q_1)), (h_p1, .inr (0, [.int p1_many, .ref h_p1_rows])), (h_p1_rows, .inl (cI, 7, .inl p1_rows))]) (rt := none) ⟨hx, hb, hml, hown, hts⟩ (k_X0_leaveAlone h_p0 h_p0_rows p0_many p0_rows (0 : Int32) q_1 hq_1) ⟨va_cnB 1 hts gX2_keepersOfClass_X0_leaveAlone_n25 rfl rfl rfl (hN _ (List.mem_of_getElem? (i := 45) rfl)) w1 hdX0_leaveAlone ⟨(Nat.le_of_ble_eq_true rfl), (Nat.le_of_ble_eq_true rfl)⟩, w2, w3⟩ hK hN hP hD hS hA [2, 3] [0, 1, 4, 5] [0, 1, 4, 5, 2, 3] rfl rfl rfl rfl (by decide) rfl rfl rfl rfl rfl rfl hl.1 rfl (Nat.le_of_ble_eq_true rfl) rfl dX2_keepersOfClass_2 ⟨Nat.zero_le _, Nat.zero_le _⟩ (fun H locs hP hD hS => ?_)
  refine lv_iconst (v := 0) hx hb dX2_keepersOfClass_5 (by decide) ?_
  refine lv_istore_n (lv' := [(3, .int (0 : Int32)), (0, .ref h_t), (1, .ref h_p0), (2, .ref h_p1)]) hx hb dX2_keepersOfClass_6 rfl hl (by decide) rfl (fun ls hl => ?_)
  refine lv_iconst (v := 0) hx hb dX2_keepersOfClass_7 (by decide) ?_
  refine lv_istore (lv' := [(4, .int (0 : Int32)), (3, .int (0 : Int32)), (0, .ref h_t), (1, .ref h_p0), (2, .ref h_p1)]) hx hb dX2_keepersOfClass_8 hl (by decide) rfl (fun ls hl => ?_)
  obtain ⟨q_11, hq_11, hM⟩ := on_bind hM
  refine lp_10 q_1 on_F (0 : Int32) (0 : Int32) t_at p1_many p1_rows q_11 hq_11 (fun H locs hP hD hS ls hl => ?_) H locs hP hD hS ls (lv_sub hl [2, 3, 4, 1, 0] rfl)
  refine lv_iload_n hx hb dX2_keepersOfClass_65 rfl (lv_at hl 2 rfl) ?_
  refine lv_aload_n hx hb dX2_keepersOfClass_66 rfl (lv_at hl 0 rfl) ?_
  refine lv_aload_n hx hb dX2_keepersOfClass_67 rfl (lv_at hl 1 rfl) ?_
  refine lv_iconst (v := 1) hx hb dX2_keepersOfClass_68 (by decide) ?_
  obtain ⟨q_12, hq_12, hM⟩ := on_bind hM
  refine on_callV (rest := [.int q_11.1]) (As := [.ref h_p0, .int (1 : Int32)]) (st1 := [.int q_12.1, .int q_11.1]) (C := RX2) (ci := 2) (q0 := 0) (wc := [(h_t, .inr (2, [.ref h_t_at])), (h_t_at, .inl (cI, 7, .inl q_11.2.1)), (h_p0, .inr (0, [.int p0_many, .ref h_p0_rows])), (h_p0_rows, .inl (cI, 7, .inl q_1))]) (wr := [(h_p1, .inr (0, [.int q_11.2.2.1, .ref h_p1_rows])), (h_p1_rows, .inl (cI, 7, .inl q_11.2.2.2))]) (wc' := [(h_t, .inr (2, [.ref h_t_at])), (h_t_at, .inl (cI, 7, .inl q_12.2)), (h_p0, .inr (0, [.int p0_many, .ref h_p0_rows])), (h_p0_rows, .inl (cI, 7, .inl q_1))]) (wf := [(h_t, .inr (2, [.ref h_t_at])), (h_t_at, .inl (cI, 7, .inl q_12.2)), (h_p0, .inr (0, [.int p0_many, .ref h_p0_rows])), (h_p0_rows, .inl (cI, 7, .inl q_1)), (h_p1, .inr (0, [.int q_11.2.2.1, .ref h_p1_rows])), (h_p1_rows, .inl (cI, 7, .inl q_11.2.2.2))]) (rt := (some (.int q_12.1))) ⟨hx, hb, hml, hown, hts⟩ (k_X2_keepersOfNet h_t h_t_at h_p0 h_p0_rows q_11.2.1 p0_many q_1 (1 : Int32) q_12 hq_12) (cwV 2 hts gX2_keepersOfClass_X2_keepersOfNet rfl rfl rfl ⟨rfl, hdX2_keepersOfNet⟩ ⟨(Nat.le_of_ble_eq_true rfl), (Nat.le_of_ble_eq_true rfl)⟩) hK hN hP hD hS hA [0, 1, 2, 3] [4, 5] [2, 3, 4, 5, 0, 1] rfl rfl rfl rfl (by decide) rfl rfl rfl rfl rfl rfl hl.1 rfl (Nat.le_of_ble_eq_true rfl) rfl dX2_keepersOfClass_69 ⟨Nat.zero_le _, Nat.zero_le _⟩ (fun H locs hP hD hS => ?_)
  refine lv_imul hx hb dX2_keepersOfClass_72 ?_
  have hM := Option.some.inj hM
  subst hM
  rw [← hQ]
  exact on_iret hx hb hr hlk hP hD hS dX2_keepersOfClass_73
abbrev rm_X5_kind : Room := { frames := 16, cells := 0, slots := 0, locals := 389 }
set_option maxHeartbeats 4000000 in
set_option maxRecDepth 100000 in
theorem k_X5_kind {l : Launch} {D : va_G} {cI cJ cZ cS cA : ClassId} (h_t : Nat) (h_t_now : Nat) (h_t_images : Nat) (h_t_pad : Nat) (h_t_net : Nat) (h_t_second : Nat) (h_t_renumbering : Nat) (h_t_table : Nat) (h_t_marks : Nat) (h_t_now_numbers : Nat) (h_t_net_rows : Nat) (h_t_second_rows : Nat) (h_t_renumbering_at : Nat) (t_now_many : Int32) (t_now_numbers : Nat → Int32) (t_net_many : Int32) (t_net_rows : Nat → Int32) (t_second_many : Int32) (t_second_rows : Nat → Int32) (t_renumbering_at : Nat → Int32) (v1 : Int32) (v2 : Int32) (out : Int32 × Int32 × (Nat → Int32) × Int32 × (Nat → Int32) × (Nat → Int32)) (hM : M_X5_kind v1 v2 t_now_many t_now_numbers t_net_many t_net_rows t_second_many t_second_rows t_renumbering_at = some out) : on_Con l yX5_kind wsX5_kind rm_X5_kind [.ref h_t, .int v1, .int v2] D (on_T cI cJ cZ cS cA) [(h_t, .inr (5, [.ref h_t_now, .ref h_t_images, .ref h_t_pad, .ref h_t_net, .ref h_t_second, .ref h_t_renumbering, .ref h_t_table, .ref h_t_marks])), (h_t_now, .inr (3, [.int t_now_many, .ref h_t_now_numbers])), (h_t_now_numbers, .inl (cI, 3, .inl t_now_numbers)), (h_t_net, .inr (0, [.int t_net_many, .ref h_t_net_rows])), (h_t_net_rows, .inl (cI, 7, .inl t_net_rows)), (h_t_second, .inr (0, [.int t_second_many, .ref h_t_second_rows])), (h_t_second_rows, .inl (cI, 7, .inl t_second_rows)), (h_t_renumbering, .inr (2, [.ref h_t_renumbering_at])), (h_t_renumbering_at, .inl (cI, 7, .inl t_renumbering_at))] (some (.int out.1)) [(h_t, .inr (5, [.ref h_t_now, .ref h_t_images, .ref h_t_pad, .ref h_t_net, .ref h_t_second, .ref h_t_renumbering, .ref h_t_table, .ref h_t_marks])), (h_t_now, .inr (3, [.int t_now_many, .ref h_t_now_numbers])), (h_t_now_numbers, .inl (cI, 3, .inl t_now_numbers)), (h_t_net, .inr (0, [.int out.2.1, .ref h_t_net_rows])), (h_t_net_rows, .inl (cI, 7, .inl out.2.2.1)), (h_t_second, .inr (0, [.int out.2.2.2.1, .ref h_t_second_rows])), (h_t_second_rows, .inl (cI, 7, .inl out.2.2.2.2.1)), (h_t_renumbering, .inr (2, [.ref h_t_renumbering_at])), (h_t_renumbering_at, .inl (cI, 7, .inl out.2.2.2.2.2))] := by
  unfold M_X5_kind at hM
  refine on_enter (cc := cX5_kind) (nL := 3) (rt := (some .int)) (own := RX5) (by decide +kernel) rfl rfl (Nat.le_of_ble_eq_true rfl) ?_
  intro p e s m below meth c A ls hx hb hml hr hlk hts hown hA hK hN H locs hP hD hS hl
  have hl : lv_has ls 3 [(0, .ref h_t), (1, .int v1), (2, .int v2)] := hl
  generalize hQ : MQ below (on_Q D (some (.int out.1)) [(h_t, .inr (5, [.ref h_t_now, .ref h_t_images, .ref h_t_pad, .ref h_t_net, .ref h_t_second, .ref h_t_renumbering, .ref h_t_table, .ref h_t_marks])), (h_t_now, .inr (3, [.int t_now_many, .ref h_t_now_numbers])), (h_t_now_numbers, .inl (cI, 3, .inl t_now_numbers)), (h_t_net, .inr (0, [.int out.2.1, .ref h_t_net_rows])), (h_t_net_rows, .inl (cI, 7, .inl out.2.2.1)), (h_t_second, .inr (0, [.int out.2.2.2.1, .ref h_t_second_rows])), (h_t_second_rows, .inl (cI, 7, .inl out.2.2.2.2.1)), (h_t_renumbering, .inr (2, [.ref h_t_renumbering_at])), (h_t_renumbering_at, .inl (cI, 7, .inl out.2.2.2.2.2))] A) _ s 0 0 A = Q
  generalize hAr : List.toArray ([.ref h_t, .int v1, .int v2] : List Value) = args at hts hQ ⊢
  have w1 := hts (.fieldLink RX5 30 "OddNets" "net" "LOddNets$Net;") (by decide +kernel)
  have w2 : ∀ w ∈ wsX50, w ∈ wsX5_kind := by decide +kernel
  have w3 := hts (.fieldLink RX5 40 "OddNets" "renumbering" "LOddNets$Renumbering;") (by decide +kernel)
  have w4 := hts (.fieldLink RX5 34 "OddNets" "second" "LOddNets$Net;") (by decide +kernel)
  have w5 := hts (.initialized RX2) (by decide +kernel)
  have w6 := hts (.instanceMethod yX2_keepersOfClass) (by decide +kernel)
  have w7 := hts (.selects RX2 yX2_keepersOfClass yX2_keepersOfClass) (by decide +kernel)
  have w8 := hts (.instanceMethod yX2_keepersOfNet) (by decide +kernel)
  have w9 := hts (.selects RX2 yX2_keepersOfNet yX2_keepersOfNet) (by decide +kernel)
  refine lv_iload_n hx hb dX5_kind_0 rfl (lv_at hl 1 rfl) ?_
  obtain ⟨q_1, hq_1, hM⟩ := on_bind hM
  refine on_callS0 (rest := []) (As := [.int v1]) (st1 := [.int q_1]) ⟨hx, hb, hml, hown, hts⟩ (k_X5_isSlot v1 q_1 hq_1) (va_cwS 1 hts gX5_kind_X5_isSlot rfl rfl rfl hdX5_isSlot ⟨(Nat.le_of_ble_eq_true rfl), (Nat.le_of_ble_eq_true rfl)⟩) hK hN hP hD hS hA rfl hl.1 rfl (Nat.le_of_ble_eq_true rfl) rfl dX5_kind_1 ⟨Nat.zero_le _, Nat.zero_le _⟩ (fun H locs hP hS => ?_)
  refine lv_if_ne (tgt := 9) hx hb dX5_kind_4 (by decide) (fun c_2 => ?_) (fun c_2 => ?_)
  · have hM := on_neg c_2 hM
    refine lv_iload_n hx hb dX5_kind_9 rfl (lv_at hl 2 rfl) ?_
    by_cases c_8 : v2 = 0
    · have hM := on_pos c_8 hM
      refine lv_tableIn (tgt := 36) hx hb dX5_kind_10 (by rw [c_8]; decide) (by rw [c_8]; decide) (by rw [c_8]; rfl) (by decide) ?_
      refine lv_aload_n hx hb dX5_kind_36 rfl (lv_at hl 0 rfl) ?_
      refine lv_iload_n hx hb dX5_kind_37 rfl (lv_at hl 1 rfl) ?_
      obtain ⟨q_3, hq_3, hM⟩ := on_bind hM
      refine on_callV (rest := []) (As := [.int v1]) (st1 := [.int q_3.1]) (C := RX5) (ci := 5) (q0 := 0) (wc := [(h_t, .inr (5, [.ref h_t_now, .ref h_t_images, .ref h_t_pad, .ref h_t_net, .ref h_t_second, .ref h_t_renumbering, .ref h_t_table, .ref h_t_marks])), (h_t_now, .inr (3, [.int t_now_many, .ref h_t_now_numbers])), (h_t_now_numbers, .inl (cI, 3, .inl t_now_numbers)), (h_t_net, .inr (0, [.int t_net_many, .ref h_t_net_rows])), (h_t_net_rows, .inl (cI, 7, .inl t_net_rows)), (h_t_renumbering, .inr (2, [.ref h_t_renumbering_at])), (h_t_renumbering_at, .inl (cI, 7, .inl t_renumbering_at))]) (wr := [(h_t_second, .inr (0, [.int t_second_many, .ref h_t_second_rows])), (h_t_second_rows, .inl (cI, 7, .inl t_second_rows))]) (wc' := [(h_t, .inr (5, [.ref h_t_now, .ref h_t_images, .ref h_t_pad, .ref h_t_net, .ref h_t_second, .ref h_t_renumbering, .ref h_t_table, .ref h_t_marks])), (h_t_now, .inr (3, [.int t_now_many, .ref h_t_now_numbers])), (h_t_now_numbers, .inl (cI, 3, .inl t_now_numbers)), (h_t_net, .inr (0, [.int q_3.2.1, .ref h_t_net_rows])), (h_t_net_rows, .inl (cI, 7, .inl q_3.2.2.1)), (h_t_renumbering, .inr (2, [.ref h_t_renumbering_at])), (h_t_renumbering_at, .inl (cI, 7, .inl q_3.2.2.2))]) (wf := [(h_t, .inr (5, [.ref h_t_now, .ref h_t_images, .ref h_t_pad, .ref h_t_net, .ref h_t_second, .ref h_t_renumbering, .ref h_t_table, .ref h_t_marks])), (h_t_now, .inr (3, [.int t_now_many, .ref h_t_now_numbers])), (h_t_now_numbers, .inl (cI, 3, .inl t_now_numbers)), (h_t_net, .inr (0, [.int q_3.2.1, .ref h_t_net_rows])), (h_t_net_rows, .inl (cI, 7, .inl q_3.2.2.1)), (h_t_second, .inr (0, [.int t_second_many, .ref h_t_second_rows])), (h_t_second_rows, .inl (cI, 7, .inl t_second_rows)), (h_t_renumbering, .inr (2, [.ref h_t_renumbering_at])), (h_t_renumbering_at, .inl (cI, 7, .inl q_3.2.2.2))]) (rt := (some (.int q_3.1))) ⟨hx, hb, hml, hown, hts⟩ (k_X5_kindOfSlot h_t h_t_now h_t_images h_t_pad h_t_net h_t_second h_t_renumbering h_t_table h_t_marks h_t_now_numbers h_t_net_rows h_t_renumbering_at t_now_many t_now_numbers t_net_many t_net_rows t_renumbering_at v1 q_3 hq_3) (cwV 1 hts gX5_kind_X5_kindOfSlot rfl rfl rfl ⟨rfl, hdX5_kindOfSlot⟩ ⟨(Nat.le_of_ble_eq_true rfl), (Nat.le_of_ble_eq_true rfl)⟩) hK hN hP hD hS hA [0, 1, 2, 3, 4, 7, 8] [5, 6] [2, 3, 4, 5, 6, 0, 1, 7, 8] rfl rfl rfl rfl (by decide) rfl rfl rfl rfl rfl rfl hl.1 rfl (Nat.le_of_ble_eq_true rfl) rfl dX5_kind_38 ⟨Nat.zero_le _, Nat.zero_le _⟩ (fun H locs hP hD hS => ?_)
      have hM := Option.some.inj hM
      subst hM
      rw [← hQ]
      exact on_iret hx hb hr hlk hP hD hS dX5_kind_41
    · have hM := on_neg c_8 hM
      by_cases c_9 : v2 = 1
      · have hM := on_pos c_9 hM
        refine lv_tableIn (tgt := 42) hx hb dX5_kind_10 (by rw [c_9]; decide) (by rw [c_9]; decide) (by rw [c_9]; rfl) (by decide) ?_
        refine lv_aload_n hx hb dX5_kind_42 rfl (lv_at hl 0 rfl) ?_
        refine lv_aload_n hx hb dX5_kind_43 rfl (lv_at hl 0 rfl) ?_
        refine va_get (D := D) (ci := 5) (v := .ref h_t_net) (C := RX5) (T := TX5) (N := 8) hx hb hts w2 hown hK hP 0 rfl rfl 3 (by decide) w1 (fun _ h9 => h9) rfl dX5_kind_44 ?_
        refine lv_iload_n hx hb dX5_kind_47 rfl (lv_at hl 1 rfl) ?_
        obtain ⟨q_4, hq_4, hM⟩ := on_bind hM
        refine on_callV (rest := []) (As := [.ref h_t_net, .int v1]) (st1 := []) (C := RX5) (ci := 5) (q0 := 0) (wc := [(h_t, .inr (5, [.ref h_t_now, .ref h_t_images, .ref h_t_pad, .ref h_t_net, .ref h_t_second, .ref h_t_renumbering, .ref h_t_table, .ref h_t_marks])), (h_t_now, .inr (3, [.int t_now_many, .ref h_t_now_numbers])), (h_t_now_numbers, .inl (cI, 3, .inl t_now_numbers)), (h_t_net, .inr (0, [.int t_net_many, .ref h_t_net_rows])), (h_t_net_rows, .inl (cI, 7, .inl t_net_rows))]) (wr := [(h_t_second, .inr (0, [.int t_second_many, .ref h_t_second_rows])), (h_t_second_rows, .inl (cI, 7, .inl t_second_rows)), (h_t_renumbering, .inr (2, [.ref h_t_renumbering_at])), (h_t_renumbering_at, .inl (cI, 7, .inl t_renumbering_at))]) (wc' := [(h_t, .inr (5, [.ref h_t_now, .ref h_t_images, .ref h_t_pad, .ref h_t_net, .ref h_t_second, .ref h_t_renumbering, .ref h_t_table, .ref h_t_marks])), (h_t_now, .inr (3, [.int t_now_many, .ref h_t_now_numbers])), (h_t_now_numbers, .inl (cI, 3, .inl t_now_numbers)), (h_t_net, .inr (0, [.int q_4.1, .ref h_t_net_rows])), (h_t_net_rows, .inl (cI, 7, .inl q_4.2))]) (wf := [(h_t, .inr (5, [.ref h_t_now, .ref h_t_images, .ref h_t_pad, .ref h_t_net, .ref h_t_second, .ref h_t_renumbering, .ref h_t_table, .ref h_t_marks])), (h_t_now, .inr (3, [.int t_now_many, .ref h_t_now_numbers])), (h_t_now_numbers, .inl (cI, 3, .inl t_now_numbers)), (h_t_net, .inr (0, [.int q_4.1, .ref h_t_net_rows])), (h_t_net_rows, .inl (cI, 7, .inl q_4.2)), (h_t_second, .inr (0, [.int t_second_many, .ref h_t_second_rows])), (h_t_second_rows, .inl (cI, 7, .inl t_second_rows)), (h_t_renumbering, .inr (2, [.ref h_t_renumbering_at])), (h_t_renumbering_at, .inl (cI, 7, .inl t_renumbering_at))]) (rt := none) ⟨hx, hb, hml, hown, hts⟩ (k_X5_load h_t h_t_now h_t_images h_t_pad h_t_net h_t_second h_t_renumbering h_t_table h_t_marks h_t_now_numbers h_t_net h_t_net_rows t_now_many t_now_numbers t_net_many t_net_rows v1 q_4 hq_4) (cwV 2 hts gX5_kind_X5_load rfl rfl rfl ⟨rfl, hdX5_load⟩ ⟨(Nat.le_of_ble_eq_true rfl), (Nat.le_of_ble_eq_true rfl)⟩) hK hN hP hD hS hA [0, 1, 2, 3, 4] [5, 6, 7, 8] [4, 5, 6, 7, 8, 0, 1, 2, 3] rfl rfl rfl rfl (by decide) rfl rfl rfl rfl rfl rfl hl.1 rfl (Nat.le_of_ble_eq_true rfl) rfl dX5_kind_48 ⟨Nat.zero_le _, Nat.zero_le _⟩ (fun H locs hP hD hS => ?_)
        refine lv_aload_n hx hb dX5_kind_51 rfl (lv_at hl 0 rfl) ?_
        refine va_get (D := D) (ci := 5) (v := .ref h_t_renumbering) (C := RX5) (T := TX5) (N := 8) hx hb hts w2 hown hK hP 0 rfl rfl 5 (by decide) w3 (fun _ h9 => h9) rfl dX5_kind_52 ?_
        refine lv_aload_n hx hb dX5_kind_55 rfl (lv_at hl 0 rfl) ?_
        refine va_get (D := D) (ci := 5) (v := .ref h_t_net) (C := RX5) (T := TX5) (N := 8) hx hb hts w2 hown hK hP 0 rfl rfl 3 (by decide) w1 (fun _ h9 => h9) rfl dX5_kind_56 ?_
        refine lv_aload_n hx hb dX5_kind_59 rfl (lv_at hl 0 rfl) ?_
        refine va_get (D := D) (ci := 5) (v := .ref h_t_second) (C := RX5) (T := TX5) (N := 8) hx hb hts w2 hown hK hP 0 rfl rfl 4 (by decide) w4 (fun _ h9 => h9) rfl dX5_kind_60 ?_
        obtain ⟨q_5, hq_5, hM⟩ := on_bind hM
        refine on_callVN (rest := []) (As := [.ref h_t_net, .ref h_t_second]) (st1 := [.int q_5.1]) (C := RX2) (ci := 2) (q0 := 7) (wc := [(h_t_renumbering, .inr (2, [.ref h_t_renumbering_at])), (h_t_renumbering_at, .inl (cI, 7, .inl t_renumbering_at)), (h_t_net, .inr (0, [.int q_4.1, .ref h_t_net_rows])), (h_t_net_rows, .inl (cI, 7, .inl q_4.2)), (h_t_second, .inr (0, [.int t_second_many, .ref h_t_second_rows])), (h_t_second_rows, .inl (cI, 7, .inl t_second_rows))]) (wr := [(h_t, .inr (5, [.ref h_t_now, .ref h_t_images, .ref h_t_pad, .ref h_t_net, .ref h_t_second, .ref h_t_renumbering, .ref h_t_table, .ref h_t_marks])), (h_t_now, .inr (3, [.int t_now_many, .ref h_t_now_numbers])), (h_t_now_numbers, .inl (cI, 3, .inl t_now_numbers))]) (wc' := [(h_t_renumbering, .inr (2, [.ref h_t_renumbering_at])), (h_t_renumbering_at, .inl (cI, 7, .inl q_5.2.1)), (h_t_net, .inr (0, [.int q_4.1, .ref h_t_net_rows])), (h_t_net_rows, .inl (cI, 7, .inl q_5.2.2.1)), (h_t_second, .inr (0, [.int q_5.2.2.2.1, .ref h_t_second_rows])), (h_t_second_rows, .inl (cI, 7, .inl q_5.2.2.2.2))]) (wf := [(h_t, .inr (5, [.ref h_t_now, .ref h_t_images, .ref h_t_pad, .ref h_t_net, .ref h_t_second, .ref h_t_renumbering, .ref h_t_table, .ref h_t_marks])), (h_t_now, .inr (3, [.int t_now_many, .ref h_t_now_numbers])), (h_t_now_numbers, .inl (cI, 3, .inl t_now_numbers)), (h_t_net, .inr (0, [.int q_4.1, .ref h_t_net_rows])), (h_t_net_rows, .inl (cI, 7, .inl q_5.2.2.1)), (h_t_second, .inr (0, [.int q_5.2.2.2.1, .ref h_t_second_rows])), (h_t_second_rows, .inl (cI, 7, .inl q_5.2.2.2.2)), (h_t_renumbering, .inr (2, [.ref h_t_renumbering_at])), (h_t_renumbering_at, .inl (cI, 7, .inl q_5.2.1))]) (rt := (some (.int q_5.1))) ⟨hx, hb, hml, hown, hts⟩ (k_X2_keepersOfClass h_t_renumbering h_t_renumbering_at h_t_net h_t_net_rows h_t_second h_t_second_rows t_renumbering_at q_4.1 q_4.2 t_second_many t_second_rows q_5 hq_5) ⟨va_cnB 2 hts gX5_kind_X2_keepersOfClass_n171 rfl rfl rfl (hN _ (List.mem_of_getElem? (i := 47) rfl)) w5 hdX2_keepersOfClass ⟨(Nat.le_of_ble_eq_true rfl), (Nat.le_of_ble_eq_true rfl)⟩, w6, w7⟩ hK hN hP hD hS hA [7, 8, 3, 4, 5, 6] [0, 1, 2] [0, 1, 2, 5, 6, 7, 8, 3, 4] rfl rfl rfl rfl (by decide) rfl rfl rfl rfl rfl rfl hl.1 rfl (Nat.le_of_ble_eq_true rfl) rfl dX5_kind_63 ⟨Nat.zero_le _, Nat.zero_le _⟩ (fun H locs hP hD hS => ?_)
        have hM := Option.some.inj hM
        subst hM
        rw [← hQ]
        exact on_iret hx hb hr hlk hP hD hS dX5_kind_66
      · have hM := on_neg c_9 hM
        by_cases c_10 : v2 = 2
        · have hM := on_pos c_10 hM
          refine lv_tableIn (tgt := 67) hx hb dX5_kind_10 (by rw [c_10]; decide) (by rw [c_10]; decide) (by rw [c_10]; rfl) (by decide) ?_
          refine lv_aload_n hx hb dX5_kind_67 rfl (lv_at hl 0 rfl) ?_
          refine lv_aload_n hx hb dX5_kind_68 rfl (lv_at hl 0 rfl) ?_
          refine va_get (D := D) (ci := 5) (v := .ref h_t_net) (C := RX5) (T := TX5) (N := 8) hx hb hts w2 hown hK hP 0 rfl rfl 3 (by decide) w1 (fun _ h9 => h9) rfl dX5_kind_69 ?_
          refine lv_iload_n hx hb dX5_kind_72 rfl (lv_at hl 1 rfl) ?_
          obtain ⟨q_6, hq_6, hM⟩ := on_bind hM
          refine on_callV (rest := []) (As := [.ref h_t_net, .int v1]) (st1 := []) (C := RX5) (ci := 5) (q0 := 0) (wc := [(h_t, .inr (5, [.ref h_t_now, .ref h_t_images, .ref h_t_pad, .ref h_t_net, .ref h_t_second, .ref h_t_renumbering, .ref h_t_table, .ref h_t_marks])), (h_t_now, .inr (3, [.int t_now_many, .ref h_t_now_numbers])), (h_t_now_numbers, .inl (cI, 3, .inl t_now_numbers)), (h_t_net, .inr (0, [.int t_net_many, .ref h_t_net_rows])), (h_t_net_rows, .inl (cI, 7, .inl t_net_rows))]) (wr := [(h_t_second, .inr (0, [.int t_second_many, .ref h_t_second_rows])), (h_t_second_rows, .inl (cI, 7, .inl t_second_rows)), (h_t_renumbering, .inr (2, [.ref h_t_renumbering_at])), (h_t_renumbering_at, .inl (cI, 7, .inl t_renumbering_at))]) (wc' := [(h_t, .inr (5, [.ref h_t_now, .ref h_t_images, .ref h_t_pad, .ref h_t_net, .ref h_t_second, .ref h_t_renumbering, .ref h_t_table, .ref h_t_marks])), (h_t_now, .inr (3, [.int t_now_many, .ref h_t_now_numbers])), (h_t_now_numbers, .inl (cI, 3, .inl t_now_numbers)), (h_t_net, .inr (0, [.int q_6.1, .ref h_t_net_rows])), (h_t_net_rows, .inl (cI, 7, .inl q_6.2))]) (wf := [(h_t, .inr (5, [.ref h_t_now, .ref h_t_images, .ref h_t_pad, .ref h_t_net, .ref h_t_second, .ref h_t_renumbering, .ref h_t_table, .ref h_t_marks])), (h_t_now, .inr (3, [.int t_now_many, .ref h_t_now_numbers])), (h_t_now_numbers, .inl (cI, 3, .inl t_now_numbers)), (h_t_net, .inr (0, [.int q_6.1, .ref h_t_net_rows])), (h_t_net_rows, .inl (cI, 7, .inl q_6.2)), (h_t_second, .inr (0, [.int t_second_many, .ref h_t_second_rows])), (h_t_second_rows, .inl (cI, 7, .inl t_second_rows)), (h_t_renumbering, .inr (2, [.ref h_t_renumbering_at])), (h_t_renumbering_at, .inl (cI, 7, .inl t_renumbering_at))]) (rt := none) ⟨hx, hb, hml, hown, hts⟩ (k_X5_load h_t h_t_now h_t_images h_t_pad h_t_net h_t_second h_t_renumbering h_t_table h_t_marks h_t_now_numbers h_t_net h_t_net_rows t_now_many t_now_numbers t_net_many t_net_rows v1 q_6 hq_6) (cwV 2 hts gX5_kind_X5_load rfl rfl rfl ⟨rfl, hdX5_load⟩ ⟨(Nat.le_of_ble_eq_true rfl), (Nat.le_of_ble_eq_true rfl)⟩) hK hN hP hD hS hA [0, 1, 2, 3, 4] [5, 6, 7, 8] [4, 5, 6, 7, 8, 0, 1, 2, 3] rfl rfl rfl rfl (by decide) rfl rfl rfl rfl rfl rfl hl.1 rfl (Nat.le_of_ble_eq_true rfl) rfl dX5_kind_73 ⟨Nat.zero_le _, Nat.zero_le _⟩ (fun H locs hP hD hS => ?_)
          refine lv_aload_n hx hb dX5_kind_76 rfl (lv_at hl 0 rfl) ?_
          refine va_get (D := D) (ci := 5) (v := .ref h_t_renumbering) (C := RX5) (T := TX5) (N := 8) hx hb hts w2 hown hK hP 0 rfl rfl 5 (by decide) w3 (fun _ h9 => h9) rfl dX5_kind_77 ?_
          refine lv_aload_n hx hb dX5_kind_80 rfl (lv_at hl 0 rfl) ?_
          refine va_get (D := D) (ci := 5) (v := .ref h_t_net) (C := RX5) (T := TX5) (N := 8) hx hb hts w2 hown hK hP 0 rfl rfl 3 (by decide) w1 (fun _ h9 => h9) rfl dX5_kind_81 ?_
          refine lv_iconst (v := 0) hx hb dX5_kind_84 (by decide) ?_
          obtain ⟨q_7, hq_7, hM⟩ := on_bind hM
          refine on_callVN (rest := []) (As := [.ref h_t_net, .int (0 : Int32)]) (st1 := [.int q_7.1]) (C := RX2) (ci := 2) (q0 := 7) (wc := [(h_t_renumbering, .inr (2, [.ref h_t_renumbering_at])), (h_t_renumbering_at, .inl (cI, 7, .inl t_renumbering_at)), (h_t_net, .inr (0, [.int q_6.1, .ref h_t_net_rows])), (h_t_net_rows, .inl (cI, 7, .inl q_6.2))]) (wr := [(h_t, .inr (5, [.ref h_t_now, .ref h_t_images, .ref h_t_pad, .ref h_t_net, .ref h_t_second, .ref h_t_renumbering, .ref h_t_table, .ref h_t_marks])), (h_t_now, .inr (3, [.int t_now_many, .ref h_t_now_numbers])), (h_t_now_numbers, .inl (cI, 3, .inl t_now_numbers)), (h_t_second, .inr (0, [.int t_second_many, .ref h_t_second_rows])), (h_t_second_rows, .inl (cI, 7, .inl t_second_rows))]) (wc' := [(h_t_renumbering, .inr (2, [.ref h_t_renumbering_at])), (h_t_renumbering_at, .inl (cI, 7, .inl q_7.2)), (h_t_net, .inr (0, [.int q_6.1, .ref h_t_net_rows])), (h_t_net_rows, .inl (cI, 7, .inl q_6.2))]) (wf := [(h_t, .inr (5, [.ref h_t_now, .ref h_t_images, .ref h_t_pad, .ref h_t_net, .ref h_t_second, .ref h_t_renumbering, .ref h_t_table, .ref h_t_marks])), (h_t_now, .inr (3, [.int t_now_many, .ref h_t_now_numbers])), (h_t_now_numbers, .inl (cI, 3, .inl t_now_numbers)), (h_t_net, .inr (0, [.int q_6.1, .ref h_t_net_rows])), (h_t_net_rows, .inl (cI, 7, .inl q_6.2)), (h_t_second, .inr (0, [.int t_second_many, .ref h_t_second_rows])), (h_t_second_rows, .inl (cI, 7, .inl t_second_rows)), (h_t_renumbering, .inr (2, [.ref h_t_renumbering_at])), (h_t_renumbering_at, .inl (cI, 7, .inl q_7.2))]) (rt := (some (.int q_7.1))) ⟨hx, hb, hml, hown, hts⟩ (k_X2_keepersOfNet h_t_renumbering h_t_renumbering_at h_t_net h_t_net_rows t_renumbering_at q_6.1 q_6.2 (0 : Int32) q_7 hq_7) ⟨va_cnB 2 hts gX5_kind_X2_keepersOfNet_n175 rfl rfl rfl (hN _ (List.mem_of_getElem? (i := 49) rfl)) w5 hdX2_keepersOfNet ⟨(Nat.le_of_ble_eq_true rfl), (Nat.le_of_ble_eq_true rfl)⟩, w8, w9⟩ hK hN hP hD hS hA [7, 8, 3, 4] [0, 1, 2, 5, 6] [0, 1, 2, 7, 8, 3, 4, 5, 6] rfl rfl rfl rfl (by decide) rfl rfl rfl rfl rfl rfl hl.1 rfl (Nat.le_of_ble_eq_true rfl) rfl dX5_kind_85 ⟨Nat.zero_le _, Nat.zero_le _⟩ (fun H locs hP hD hS => ?_)
          have hM := Option.some.inj hM
          subst hM
          rw [← hQ]
          exact on_iret hx hb hr hlk hP hD hS dX5_kind_88
        · have hM := on_neg c_10 hM
          refine lv_tableOut (tgt := 89) hx hb dX5_kind_10 (on_swOut (n := 3) (fun k hk => by rcases (show k = 0 ∨ k = 1 ∨ k = 2 by omega) with rfl | rfl | rfl <;> first | exact c_8 | exact c_9 | exact c_10) (by decide)) (by decide) ?_
          refine lv_bipush (v := -2) hx hb dX5_kind_89 (by decide) ?_
          have hM := Option.some.inj hM
          subst hM
          rw [← hQ]
          exact on_iret hx hb hr hlk hP hD hS dX5_kind_91
  · have hM := on_pos c_2 hM
    refine lv_iconst (v := -1) hx hb dX5_kind_7 (by decide) ?_
    have hM := Option.some.inj hM
    subst hM
    rw [← hQ]
    exact on_iret hx hb hr hlk hP hD hS dX5_kind_8
abbrev rm_X5_card : Room := { frames := 13, cells := 0, slots := 0, locals := 353 }
set_option maxHeartbeats 4000000 in
set_option maxRecDepth 100000 in
theorem k_X5_card {l : Launch} {D : va_G} {cI cJ cZ cS cA : ClassId} (h_t : Nat) (h_t_now : Nat) (h_t_images : Nat) (h_t_pad : Nat) (h_t_net : Nat) (h_t_second : Nat) (h_t_renumbering : Nat) (h_t_table : Nat) (h_t_marks : Nat) (h_t_now_numbers : Nat) (h_t_net_rows : Nat) (h_t_renumbering_at : Nat) (t_now_many : Int32) (t_now_numbers : Nat → Int32) (t_net_many : Int32) (t_net_rows : Nat → Int32) (t_renumbering_at : Nat → Int32) (v1 : Int32) (v2 : Int32) (out : Int32 × Int32 × (Nat → Int32) × (Nat → Int32)) (hM : M_X5_card v1 v2 t_now_many t_now_numbers t_net_many t_net_rows t_renumbering_at = some out) : on_Con l yX5_card wsX5_card rm_X5_card [.ref h_t, .int v1, .int v2] D (on_T cI cJ cZ cS cA) [(h_t, .inr (5, [.ref h_t_now, .ref h_t_images, .ref h_t_pad, .ref h_t_net, .ref h_t_second, .ref h_t_renumbering, .ref h_t_table, .ref h_t_marks])), (h_t_now, .inr (3, [.int t_now_many, .ref h_t_now_numbers])), (h_t_now_numbers, .inl (cI, 3, .inl t_now_numbers)), (h_t_net, .inr (0, [.int t_net_many, .ref h_t_net_rows])), (h_t_net_rows, .inl (cI, 7, .inl t_net_rows)), (h_t_renumbering, .inr (2, [.ref h_t_renumbering_at])), (h_t_renumbering_at, .inl (cI, 7, .inl t_renumbering_at))] (some (.int out.1)) [(h_t, .inr (5, [.ref h_t_now, .ref h_t_images, .ref h_t_pad, .ref h_t_net, .ref h_t_second, .ref h_t_renumbering, .ref h_t_table, .ref h_t_marks])), (h_t_now, .inr (3, [.int t_now_many, .ref h_t_now_numbers])), (h_t_now_numbers, .inl (cI, 3, .inl t_now_numbers)), (h_t_net, .inr (0, [.int out.2.1, .ref h_t_net_rows])), (h_t_net_rows, .inl (cI, 7, .inl out.2.2.1)), (h_t_renumbering, .inr (2, [.ref h_t_renumbering_at])), (h_t_renumbering_at, .inl (cI, 7, .inl out.2.2.2))] := by
  unfold M_X5_card at hM
  refine on_enter (cc := cX5_card) (nL := 3) (rt := (some .int)) (own := RX5) (by decide +kernel) rfl rfl (Nat.le_of_ble_eq_true rfl) ?_
  intro p e s m below meth c A ls hx hb hml hr hlk hts hown hA hK hN H locs hP hD hS hl
  have hl : lv_has ls 3 [(0, .ref h_t), (1, .int v1), (2, .int v2)] := hl
  generalize hQ : MQ below (on_Q D (some (.int out.1)) [(h_t, .inr (5, [.ref h_t_now, .ref h_t_images, .ref h_t_pad, .ref h_t_net, .ref h_t_second, .ref h_t_renumbering, .ref h_t_table, .ref h_t_marks])), (h_t_now, .inr (3, [.int t_now_many, .ref h_t_now_numbers])), (h_t_now_numbers, .inl (cI, 3, .inl t_now_numbers)), (h_t_net, .inr (0, [.int out.2.1, .ref h_t_net_rows])), (h_t_net_rows, .inl (cI, 7, .inl out.2.2.1)), (h_t_renumbering, .inr (2, [.ref h_t_renumbering_at])), (h_t_renumbering_at, .inl (cI, 7, .inl out.2.2.2))] A) _ s 0 0 A = Q
  generalize hAr : List.toArray ([.ref h_t, .int v1, .int v2] : List Value) = args at hts hQ ⊢
  have w1 := hts (.fieldLink RX5 10 "OddNets" "now" "LOddNets$Shelf;") (by decide +kernel)
  have w2 : ∀ w ∈ wsX50, w ∈ wsX5_card := by decide +kernel
  have w3 : ∀ w ∈ wsX30, w ∈ wsX5_card := by decide +kernel
  have w4 := hts (.fieldLink RX5 30 "OddNets" "net" "LOddNets$Net;") (by decide +kernel)
  have w5 := hts (.initialized RX0) (by decide +kernel)
  have w6 := hts (.instanceMethod yX0_drop) (by decide +kernel)
  have w7 := hts (.selects RX0 yX0_drop yX0_drop) (by decide +kernel)
  have w8 := hts (.fieldLink RX5 40 "OddNets" "renumbering" "LOddNets$Renumbering;") (by decide +kernel)
  have w9 := hts (.initialized RX2) (by decide +kernel)
  have w10 := hts (.instanceMethod yX2_kindOfClass) (by decide +kernel)
  have w11 := hts (.selects RX2 yX2_kindOfClass yX2_kindOfClass) (by decide +kernel)
  refine lv_iload_n hx hb dX5_card_0 rfl (lv_at hl 1 rfl) ?_
  obtain ⟨q_1, hq_1, hM⟩ := on_bind hM
  refine on_callS0 (rest := []) (As := [.int v1]) (st1 := [.int q_1]) ⟨hx, hb, hml, hown, hts⟩ (k_X5_isSlot v1 q_1 hq_1) (va_cwS 1 hts gX5_card_X5_isSlot rfl rfl rfl hdX5_isSlot ⟨(Nat.le_of_ble_eq_true rfl), (Nat.le_of_ble_eq_true rfl)⟩) hK hN hP hD hS hA rfl hl.1 rfl (Nat.le_of_ble_eq_true rfl) rfl dX5_card_1 ⟨Nat.zero_le _, Nat.zero_le _⟩ (fun H locs hP hS => ?_)
  refine lv_if_eq (tgt := 15) hx hb dX5_card_4 (by decide) (fun c_2 => ?_) (fun c_2 => ?_)
  · have hM := on_pos c_2 hM
    refine lv_iconst (v := -1) hx hb dX5_card_15 (by decide) ?_
    have hM := Option.some.inj hM
    subst hM
    rw [← hQ]
    exact on_iret hx hb hr hlk hP hD hS dX5_card_16
  · have hM := on_neg c_2 hM
    refine lv_aload_n hx hb dX5_card_7 rfl (lv_at hl 0 rfl) ?_
    refine lv_iload_n hx hb dX5_card_8 rfl (lv_at hl 2 rfl) ?_
    obtain ⟨q_3, hq_3, hM⟩ := on_bind hM
    refine on_callV (rest := []) (As := [.int v2]) (st1 := [.int q_3]) (C := RX5) (ci := 5) (q0 := 0) (wc := [(h_t, .inr (5, [.ref h_t_now, .ref h_t_images, .ref h_t_pad, .ref h_t_net, .ref h_t_second, .ref h_t_renumbering, .ref h_t_table, .ref h_t_marks])), (h_t_now, .inr (3, [.int t_now_many, .ref h_t_now_numbers]))]) (wr := [(h_t_now_numbers, .inl (cI, 3, .inl t_now_numbers)), (h_t_net, .inr (0, [.int t_net_many, .ref h_t_net_rows])), (h_t_net_rows, .inl (cI, 7, .inl t_net_rows)), (h_t_renumbering, .inr (2, [.ref h_t_renumbering_at])), (h_t_renumbering_at, .inl (cI, 7, .inl t_renumbering_at))]) (wc' := [(h_t, .inr (5, [.ref h_t_now, .ref h_t_images, .ref h_t_pad, .ref h_t_net, .ref h_t_second, .ref h_t_renumbering, .ref h_t_table, .ref h_t_marks])), (h_t_now, .inr (3, [.int t_now_many, .ref h_t_now_numbers]))]) (wf := [(h_t, .inr (5, [.ref h_t_now, .ref h_t_images, .ref h_t_pad, .ref h_t_net, .ref h_t_second, .ref h_t_renumbering, .ref h_t_table, .ref h_t_marks])), (h_t_now, .inr (3, [.int t_now_many, .ref h_t_now_numbers])), (h_t_now_numbers, .inl (cI, 3, .inl t_now_numbers)), (h_t_net, .inr (0, [.int t_net_many, .ref h_t_net_rows])), (h_t_net_rows, .inl (cI, 7, .inl t_net_rows)), (h_t_renumbering, .inr (2, [.ref h_t_renumbering_at])), (h_t_renumbering_at, .inl (cI, 7, .inl t_renumbering_at))]) (rt := (some (.int q_3))) ⟨hx, hb, hml, hown, hts⟩ (k_X5_isNode h_t h_t_now h_t_images h_t_pad h_t_net h_t_second h_t_renumbering h_t_table h_t_marks h_t_now_numbers t_now_many v2 q_3 hq_3) (cwV 1 hts gX5_card_X5_isNode rfl rfl rfl ⟨rfl, hdX5_isNode⟩ ⟨(Nat.le_of_ble_eq_true rfl), (Nat.le_of_ble_eq_true rfl)⟩) hK hN hP hD hS hA [0, 1] [2, 3, 4, 5, 6] [5, 6, 0, 1, 2, 3, 4] rfl rfl rfl rfl (by decide) rfl rfl rfl rfl rfl rfl hl.1 rfl (Nat.le_of_ble_eq_true rfl) rfl dX5_card_9 ⟨Nat.zero_le _, Nat.zero_le _⟩ (fun H locs hP hD hS => ?_)
    refine lv_if_ne (tgt := 17) hx hb dX5_card_12 (by decide) (fun c_4 => ?_) (fun c_4 => ?_)
    · have hM := on_neg c_4 hM
      refine lv_aload_n hx hb dX5_card_17 rfl (lv_at hl 0 rfl) ?_
      refine va_get (D := D) (ci := 5) (v := .ref h_t_now) (C := RX5) (T := TX5) (N := 8) hx hb hts w2 hown hK hP 0 rfl rfl 0 (by decide) w1 (fun _ h9 => h9) rfl dX5_card_18 ?_
      refine va_getN (D := D) (ci := 3) (v := .int t_now_many) (C := RX3) (T := TX3) (N := 2) hx hb hts w3 hown hK hP 1 rfl rfl 0 (by decide) (va_Nw.use rfl (hN _ (List.mem_of_getElem? (i := 0) rfl))) (fun _ h9 => h9) rfl dX5_card_21 ?_
      refine lv_iconst (v := 3) hx hb dX5_card_24 (by decide) ?_
      refine lv_icmp_gt (tgt := 31) hx hb dX5_card_25 (by decide) (fun c_5 => ?_) (fun c_5 => ?_)
      · have hM := on_pos c_5 hM
        refine lv_aload_n hx hb dX5_card_31 rfl (lv_at hl 0 rfl) ?_
        refine lv_aload_n hx hb dX5_card_32 rfl (lv_at hl 0 rfl) ?_
        refine va_get (D := D) (ci := 5) (v := .ref h_t_net) (C := RX5) (T := TX5) (N := 8) hx hb hts w2 hown hK hP 0 rfl rfl 3 (by decide) w4 (fun _ h9 => h9) rfl dX5_card_33 ?_
        refine lv_iload_n hx hb dX5_card_36 rfl (lv_at hl 1 rfl) ?_
        obtain ⟨q_6, hq_6, hM⟩ := on_bind hM
        refine on_callV (rest := []) (As := [.ref h_t_net, .int v1]) (st1 := []) (C := RX5) (ci := 5) (q0 := 0) (wc := [(h_t, .inr (5, [.ref h_t_now, .ref h_t_images, .ref h_t_pad, .ref h_t_net, .ref h_t_second, .ref h_t_renumbering, .ref h_t_table, .ref h_t_marks])), (h_t_now, .inr (3, [.int t_now_many, .ref h_t_now_numbers])), (h_t_now_numbers, .inl (cI, 3, .inl t_now_numbers)), (h_t_net, .inr (0, [.int t_net_many, .ref h_t_net_rows])), (h_t_net_rows, .inl (cI, 7, .inl t_net_rows))]) (wr := [(h_t_renumbering, .inr (2, [.ref h_t_renumbering_at])), (h_t_renumbering_at, .inl (cI, 7, .inl t_renumbering_at))]) (wc' := [(h_t, .inr (5, [.ref h_t_now, .ref h_t_images, .ref h_t_pad, .ref h_t_net, .ref h_t_second, .ref h_t_renumbering, .ref h_t_table, .ref h_t_marks])), (h_t_now, .inr (3, [.int t_now_many, .ref h_t_now_numbers])), (h_t_now_numbers, .inl (cI, 3, .inl t_now_numbers)), (h_t_net, .inr (0, [.int q_6.1, .ref h_t_net_rows])), (h_t_net_rows, .inl (cI, 7, .inl q_6.2))]) (wf := [(h_t, .inr (5, [.ref h_t_now, .ref h_t_images, .ref h_t_pad, .ref h_t_net, .ref h_t_second, .ref h_t_renumbering, .ref h_t_table, .ref h_t_marks])), (h_t_now, .inr (3, [.int t_now_many, .ref h_t_now_numbers])), (h_t_now_numbers, .inl (cI, 3, .inl t_now_numbers)), (h_t_net, .inr (0, [.int q_6.1, .ref h_t_net_rows])), (h_t_net_rows, .inl (cI, 7, .inl q_6.2)), (h_t_renumbering, .inr (2, [.ref h_t_renumbering_at])), (h_t_renumbering_at, .inl (cI, 7, .inl t_renumbering_at))]) (rt := none) ⟨hx, hb, hml, hown, hts⟩ (k_X5_load h_t h_t_now h_t_images h_t_pad h_t_net h_t_second h_t_renumbering h_t_table h_t_marks h_t_now_numbers h_t_net h_t_net_rows t_now_many t_now_numbers t_net_many t_net_rows v1 q_6 hq_6) (cwV 2 hts gX5_card_X5_load rfl rfl rfl ⟨rfl, hdX5_load⟩ ⟨(Nat.le_of_ble_eq_true rfl), (Nat.le_of_ble_eq_true rfl)⟩) hK hN hP hD hS hA [0, 1, 2, 3, 4] [5, 6] [2, 3, 4, 5, 6, 0, 1] rfl rfl rfl rfl (by decide) rfl rfl rfl rfl rfl rfl hl.1 rfl (Nat.le_of_ble_eq_true rfl) rfl dX5_card_37 ⟨Nat.zero_le _, Nat.zero_le _⟩ (fun H locs hP hD hS => ?_)
        refine lv_aload_n hx hb dX5_card_40 rfl (lv_at hl 0 rfl) ?_
        refine va_get (D := D) (ci := 5) (v := .ref h_t_net) (C := RX5) (T := TX5) (N := 8) hx hb hts w2 hown hK hP 0 rfl rfl 3 (by decide) w4 (fun _ h9 => h9) rfl dX5_card_41 ?_
        refine lv_iload_n hx hb dX5_card_44 rfl (lv_at hl 2 rfl) ?_
        obtain ⟨q_7, hq_7, hM⟩ := on_bind hM
        refine on_callVN (rest := []) (As := [.int v2]) (st1 := []) (C := RX0) (ci := 0) (q0 := 3) (wc := [(h_t_net, .inr (0, [.int q_6.1, .ref h_t_net_rows])), (h_t_net_rows, .inl (cI, 7, .inl q_6.2))]) (wr := [(h_t, .inr (5, [.ref h_t_now, .ref h_t_images, .ref h_t_pad, .ref h_t_net, .ref h_t_second, .ref h_t_renumbering, .ref h_t_table, .ref h_t_marks])), (h_t_now, .inr (3, [.int t_now_many, .ref h_t_now_numbers])), (h_t_now_numbers, .inl (cI, 3, .inl t_now_numbers)), (h_t_renumbering, .inr (2, [.ref h_t_renumbering_at])), (h_t_renumbering_at, .inl (cI, 7, .inl t_renumbering_at))]) (wc' := [(h_t_net, .inr (0, [.int q_7.1, .ref h_t_net_rows])), (h_t_net_rows, .inl (cI, 7, .inl q_7.2))]) (wf := [(h_t, .inr (5, [.ref h_t_now, .ref h_t_images, .ref h_t_pad, .ref h_t_net, .ref h_t_second, .ref h_t_renumbering, .ref h_t_table, .ref h_t_marks])), (h_t_now, .inr (3, [.int t_now_many, .ref h_t_now_numbers])), (h_t_now_numbers, .inl (cI, 3, .inl t_now_numbers)), (h_t_net, .inr (0, [.int q_7.1, .ref h_t_net_rows])), (h_t_net_rows, .inl (cI, 7, .inl q_7.2)), (h_t_renumbering, .inr (2, [.ref h_t_renumbering_at])), (h_t_renumbering_at, .inl (cI, 7, .inl t_renumbering_at))]) (rt := none) ⟨hx, hb, hml, hown, hts⟩ (k_X0_drop h_t_net h_t_net_rows q_6.1 q_6.2 v2 q_7 hq_7) ⟨va_cnB 1 hts gX5_card_X0_drop_n138 rfl rfl rfl (hN _ (List.mem_of_getElem? (i := 33) rfl)) w5 hdX0_drop ⟨(Nat.le_of_ble_eq_true rfl), (Nat.le_of_ble_eq_true rfl)⟩, w6, w7⟩ hK hN hP hD hS hA [3, 4] [0, 1, 2, 5, 6] [0, 1, 2, 5, 6, 3, 4] rfl rfl rfl rfl (by decide) rfl rfl rfl rfl rfl rfl hl.1 rfl (Nat.le_of_ble_eq_true rfl) rfl dX5_card_45 ⟨Nat.zero_le _, Nat.zero_le _⟩ (fun H locs hP hD hS => ?_)
        refine lv_aload_n hx hb dX5_card_48 rfl (lv_at hl 0 rfl) ?_
        refine va_get (D := D) (ci := 5) (v := .ref h_t_renumbering) (C := RX5) (T := TX5) (N := 8) hx hb hts w2 hown hK hP 0 rfl rfl 5 (by decide) w8 (fun _ h9 => h9) rfl dX5_card_49 ?_
        refine lv_aload_n hx hb dX5_card_52 rfl (lv_at hl 0 rfl) ?_
        refine va_get (D := D) (ci := 5) (v := .ref h_t_net) (C := RX5) (T := TX5) (N := 8) hx hb hts w2 hown hK hP 0 rfl rfl 3 (by decide) w4 (fun _ h9 => h9) rfl dX5_card_53 ?_
        obtain ⟨q_8, hq_8, hM⟩ := on_bind hM
        refine on_callVN (rest := []) (As := [.ref h_t_net]) (st1 := [.int q_8.1]) (C := RX2) (ci := 2) (q0 := 5) (wc := [(h_t_renumbering, .inr (2, [.ref h_t_renumbering_at])), (h_t_renumbering_at, .inl (cI, 7, .inl t_renumbering_at)), (h_t_net, .inr (0, [.int q_7.1, .ref h_t_net_rows])), (h_t_net_rows, .inl (cI, 7, .inl q_7.2))]) (wr := [(h_t, .inr (5, [.ref h_t_now, .ref h_t_images, .ref h_t_pad, .ref h_t_net, .ref h_t_second, .ref h_t_renumbering, .ref h_t_table, .ref h_t_marks])), (h_t_now, .inr (3, [.int t_now_many, .ref h_t_now_numbers])), (h_t_now_numbers, .inl (cI, 3, .inl t_now_numbers))]) (wc' := [(h_t_renumbering, .inr (2, [.ref h_t_renumbering_at])), (h_t_renumbering_at, .inl (cI, 7, .inl q_8.2.1)), (h_t_net, .inr (0, [.int q_7.1, .ref h_t_net_rows])), (h_t_net_rows, .inl (cI, 7, .inl q_8.2.2))]) (wf := [(h_t, .inr (5, [.ref h_t_now, .ref h_t_images, .ref h_t_pad, .ref h_t_net, .ref h_t_second, .ref h_t_renumbering, .ref h_t_table, .ref h_t_marks])), (h_t_now, .inr (3, [.int t_now_many, .ref h_t_now_numbers])), (h_t_now_numbers, .inl (cI, 3, .inl t_now_numbers)), (h_t_net, .inr (0, [.int q_7.1, .ref h_t_net_rows])), (h_t_net_rows, .inl (cI, 7, .inl q_8.2.2)), (h_t_renumbering, .inr (2, [.ref h_t_renumbering_at])), (h_t_renumbering_at, .inl (cI, 7, .inl q_8.2.1))]) (rt := (some (.int q_8.1))) ⟨hx, hb, hml, hown, hts⟩ (k_X2_kindOfClass h_t_renumbering h_t_renumbering_at h_t_net h_t_net_rows t_renumbering_at q_7.1 q_7.2 q_8 hq_8) ⟨va_cnB 1 hts gX5_card_X2_kindOfClass_n179 rfl rfl rfl (hN _ (List.mem_of_getElem? (i := 43) rfl)) w9 hdX2_kindOfClass ⟨(Nat.le_of_ble_eq_true rfl), (Nat.le_of_ble_eq_true rfl)⟩, w10, w11⟩ hK hN hP hD hS hA [5, 6, 3, 4] [0, 1, 2] [0, 1, 2, 5, 6, 3, 4] rfl rfl rfl rfl (by decide) rfl rfl rfl rfl rfl rfl hl.1 rfl (Nat.le_of_ble_eq_true rfl) rfl dX5_card_56 ⟨Nat.zero_le _, Nat.zero_le _⟩ (fun H locs hP hD hS => ?_)
        have hM := Option.some.inj hM
        subst hM
        rw [← hQ]
        exact on_iret hx hb hr hlk hP hD hS dX5_card_59
      · have hM := on_neg c_5 hM
        refine lv_bipush (v := -3) hx hb dX5_card_28 (by decide) ?_
        have hM := Option.some.inj hM
        subst hM
        rw [← hQ]
        exact on_iret hx hb hr hlk hP hD hS dX5_card_30
    · have hM := on_pos c_4 hM
      refine lv_iconst (v := -1) hx hb dX5_card_15 (by decide) ?_
      have hM := Option.some.inj hM
      subst hM
      rw [← hQ]
      exact on_iret hx hb hr hlk hP hD hS dX5_card_16
abbrev rm_X4_fill : Room := { frames := 1, cells := 0, slots := 0, locals := 22 }
set_option maxHeartbeats 4000000 in
set_option maxRecDepth 100000 in
theorem k_X4_fill {l : Launch} {D : va_G} {cI cJ cZ cS cA : ClassId} (h_t : Nat) (h_t_cells : Nat) (r_t_cells : Nat → Nat) (h_p0 : Nat) (h_p0_rows : Nat) (t_many : Int32) (t_rank : Int32) (t_sign : Int32) (t_lastPivot : Int64) (t_cells : Nat → Nat → Int64) (p0_many : Int32) (p0_rows : Nat → Int32) (v2 : Int32) (out : Int32 × (Nat → Nat → Int64)) (hM : M_X4_fill v2 t_cells p0_many p0_rows = some out) : on_Con l yX4_fill wsX4_fill rm_X4_fill [.ref h_t, .ref h_p0, .int v2] D (on_T cI cJ cZ cS cA) [(h_t, .inr (4, [.int t_many, .int t_rank, .int t_sign, .long t_lastPivot, .ref h_t_cells])), (h_t_cells, .inl (cA, 7, .inr (.inr (.inr (.inr (on_rw r_t_cells)))))), on_row cJ r_t_cells t_cells 0, on_row cJ r_t_cells t_cells 1, on_row cJ r_t_cells t_cells 2, on_row cJ r_t_cells t_cells 3, on_row cJ r_t_cells t_cells 4, on_row cJ r_t_cells t_cells 5, on_row cJ r_t_cells t_cells 6, (h_p0, .inr (0, [.int p0_many, .ref h_p0_rows])), (h_p0_rows, .inl (cI, 7, .inl p0_rows))] none [(h_t, .inr (4, [.int out.1, .int t_rank, .int t_sign, .long t_lastPivot, .ref h_t_cells])), (h_t_cells, .inl (cA, 7, .inr (.inr (.inr (.inr (on_rw r_t_cells)))))), on_row cJ r_t_cells out.2 0, on_row cJ r_t_cells out.2 1, on_row cJ r_t_cells out.2 2, on_row cJ r_t_cells out.2 3, on_row cJ r_t_cells out.2 4, on_row cJ r_t_cells out.2 5, on_row cJ r_t_cells out.2 6, (h_p0, .inr (0, [.int p0_many, .ref h_p0_rows])), (h_p0_rows, .inl (cI, 7, .inl p0_rows))] := by
  unfold M_X4_fill at hM
  refine on_enter (cc := cX4_fill) (nL := 5) (rt := none) (own := RX4) (by decide +kernel) rfl rfl (Nat.le_of_ble_eq_true rfl) ?_
  intro p e s m below meth c A ls hx hb hml hr hlk hts hown hA hK hN H locs hP hD hS hl
  have hl : lv_has ls 5 [(0, .ref h_t), (1, .ref h_p0), (2, .int v2)] := hl
  generalize hQ : MQ below (on_Q D none [(h_t, .inr (4, [.int out.1, .int t_rank, .int t_sign, .long t_lastPivot, .ref h_t_cells])), (h_t_cells, .inl (cA, 7, .inr (.inr (.inr (.inr (on_rw r_t_cells)))))), on_row cJ r_t_cells out.2 0, on_row cJ r_t_cells out.2 1, on_row cJ r_t_cells out.2 2, on_row cJ r_t_cells out.2 3, on_row cJ r_t_cells out.2 4, on_row cJ r_t_cells out.2 5, on_row cJ r_t_cells out.2 6, (h_p0, .inr (0, [.int p0_many, .ref h_p0_rows])), (h_p0_rows, .inl (cI, 7, .inl p0_rows))] A) _ s 0 0 A = Q
  generalize hAr : List.toArray ([.ref h_t, .ref h_p0, .int v2] : List Value) = args at hts hQ ⊢
  have w1 : ∀ w ∈ wsX00, w ∈ wsX4_fill := by decide +kernel
  have w2 := hts (.fieldLink RX4 9 "OddNets$Table" "many" "I") (by decide +kernel)
  have w3 : ∀ w ∈ wsX40, w ∈ wsX4_fill := by decide +kernel
  have w4 := hts (.fieldLink RX4 27 "OddNets$Table" "cells" "[[J") (by decide +kernel)
  have w5 := hts (.initialized RX0) (by decide +kernel)
  have w6 := hts (.instanceMethod yX0_joined) (by decide +kernel)
  have w7 := hts (.selects RX0 yX0_joined yX0_joined) (by decide +kernel)
  have lp_21 : ∀ (v2 : Int32) (v3 : Int32) (t_many : Int32), ∀ (n : Nat) (v4 : Int32) (t_cells : Nat → Nat → Int64) (x : (Nat → Nat → Int64)), on_loop (fun (s : Int32 × (Nat → Nat → Int64)) => B_X4_fill_21 v2 v3 t_many p0_rows s.1 s.2) n (v4, t_cells) = some x → (∀ (H : Heap) (locs : List Loc), va_P D vwCl [(h_t, .inr (4, [.int t_many, .int t_rank, .int t_sign, .long t_lastPivot, .ref h_t_cells])), (h_t_cells, .inl (cA, 7, .inr (.inr (.inr (.inr (on_rw r_t_cells)))))), on_row cJ r_t_cells x 0, on_row cJ r_t_cells x 1, on_row cJ r_t_cells x 2, on_row cJ r_t_cells x 3, on_row cJ r_t_cells x 4, on_row cJ r_t_cells x 5, on_row cJ r_t_cells x 6, (h_p0, .inr (0, [.int p0_many, .ref h_p0_rows])), (h_p0_rows, .inl (cI, 7, .inl p0_rows))] H → va_D A [(h_t, .inr (4, [.int t_many, .int t_rank, .int t_sign, .long t_lastPivot, .ref h_t_cells])), (h_t_cells, .inl (cA, 7, .inr (.inr (.inr (.inr (on_rw r_t_cells)))))), on_row cJ r_t_cells x 0, on_row cJ r_t_cells x 1, on_row cJ r_t_cells x 2, on_row cJ r_t_cells x 3, on_row cJ r_t_cells x 4, on_row cJ r_t_cells x 5, on_row cJ r_t_cells x 6, (h_p0, .inr (0, [.int p0_many, .ref h_p0_rows])), (h_p0_rows, .inl (cI, 7, .inl p0_rows))] → va_S A s.heap H locs → ∀ ls : Array Slot, lv_has ls 5 [(0, .ref h_t), (1, .ref h_p0), (2, .int v2), (3, .int v3)] → W p l e rm_X4_fill s m args below meth c H locs 0 0 Q (F0 m 69 ls [])) → ∀ (H : Heap) (locs : List Loc), va_P D vwCl [(h_t, .inr (4, [.int t_many, .int t_rank, .int t_sign, .long t_lastPivot, .ref h_t_cells])), (h_t_cells, .inl (cA, 7, .inr (.inr (.inr (.inr (on_rw r_t_cells)))))), on_row cJ r_t_cells t_cells 0, on_row cJ r_t_cells t_cells 1, on_row cJ r_t_cells t_cells 2, on_row cJ r_t_cells t_cells 3, on_row cJ r_t_cells t_cells 4, on_row cJ r_t_cells t_cells 5, on_row cJ r_t_cells t_cells 6, (h_p0, .inr (0, [.int p0_many, .ref h_p0_rows])), (h_p0_rows, .inl (cI, 7, .inl p0_rows))] H → va_D A [(h_t, .inr (4, [.int t_many, .int t_rank, .int t_sign, .long t_lastPivot, .ref h_t_cells])), (h_t_cells, .inl (cA, 7, .inr (.inr (.inr (.inr (on_rw r_t_cells)))))), on_row cJ r_t_cells t_cells 0, on_row cJ r_t_cells t_cells 1, on_row cJ r_t_cells t_cells 2, on_row cJ r_t_cells t_cells 3, on_row cJ r_t_cells t_cells 4, on_row cJ r_t_cells t_cells 5, on_row cJ r_t_cells t_cells 6, (h_p0, .inr (0, [.int p0_many, .ref h_p0_rows])), (h_p0_rows, .inl (cI, 7, .inl p0_rows))] → va_S A s.heap H locs → ∀ ls : Array Slot, lv_has ls 5 [(0, .ref h_t), (1, .ref h_p0), (2, .int v2), (3, .int v3), (4, .int v4)] → W p l e rm_X4_fill s m args below meth c H locs 0 0 Q (F0 m 21 ls []) := by
    intro v2 v3 t_many
    intro n
    induction n with
    | zero =>
      intro v4 t_cells x hL
      exact (on_loop0 hL).elim
    | succ n ih =>
      intro v4 t_cells x hL K1 H locs hP hD hS ls hl
      obtain ⟨y, hM, hk⟩ := on_loopE hL
      have hM : B_X4_fill_21 v2 v3 t_many p0_rows v4 t_cells = some y := hM
      unfold B_X4_fill_21 at hM
      refine lv_iload hx hb dX4_fill_21 (lv_at hl 4 rfl) ?_
      refine lv_aload_n hx hb dX4_fill_23 rfl (lv_at hl 0 rfl) ?_
      refine va_get (D := D) (ci := 4) (v := .int t_many) (C := RX4) (T := TX4) (N := 5) hx hb hts w3 hown hK hP 0 rfl rfl 0 (by decide) w2 (fun _ h9 => h9) rfl dX4_fill_24 ?_
      refine lv_icmp_ge (tgt := 69) hx hb dX4_fill_27 (by decide) (fun c_2 => ?_) (fun c_2 => ?_)
      · have hM := on_pos c_2 hM
        have hk := on_nxR hM hk
        subst hk
        exact K1 _ _ hP hD hS ls (lv_sub hl [0, 1, 2, 3] rfl)
      · have hM := on_neg c_2 hM
        refine lv_aload_n hx hb dX4_fill_30 rfl (lv_at hl 0 rfl) ?_
        refine va_get (D := D) (ci := 4) (v := .ref h_t_cells) (C := RX4) (T := TX4) (N := 5) hx hb hts w3 hown hK hP 0 rfl rfl 4 (by decide) w4 (fun _ h9 => h9) rfl dX4_fill_31 ?_
        refine lv_iload_n hx hb dX4_fill_34 rfl (lv_at hl 3 rfl) ?_
        obtain ⟨g_3, hM⟩ := on_gdE hM
        refine on_aldA hx hb hK hP 1 4 rfl rfl (on_ixE g_3) dX4_fill_35 ?_
        rw [on_rwE g_3]
        refine lv_iload hx hb dX4_fill_36 (lv_at hl 4 rfl) ?_
        refine lv_iload_n hx hb dX4_fill_38 rfl (lv_at hl 3 rfl) ?_
        refine lv_iload hx hb dX4_fill_39 (lv_at hl 4 rfl) ?_
        refine lv_icmp_ne (tgt := 50) hx hb dX4_fill_41 (by decide) (fun c_4 => ?_) (fun c_4 => ?_)
        · have hM := on_neg c_4 hM
          refine lv_iconst (v := 1) hx hb dX4_fill_50 (by decide) ?_
          refine lv_iconst (v := 2) hx hb dX4_fill_51 (by decide) ?_
          refine lv_aload_n hx hb dX4_fill_52 rfl (lv_at hl 1 rfl) ?_
          refine lv_iload_n hx hb dX4_fill_53 rfl (lv_at hl 3 rfl) ?_
          refine lv_iload hx hb dX4_fill_54 (lv_at hl 4 rfl) ?_
          obtain ⟨q_5, hq_5, hM⟩ := on_bind hM
          refine on_callVN (rest := [.int (2 : Int32), .int (1 : Int32), .int v4, .ref (r_t_cells (Int32.toNatClampNeg v3))]) (As := [.int v3, .int v4]) (st1 := [.int q_5, .int (2 : Int32), .int (1 : Int32), .int v4, .ref (r_t_cells (Int32.toNatClampNeg v3))]) (C := RX0) (ci := 0) (q0 := 9) (wc := [(h_p0, .inr (0, [.int p0_many, .ref h_p0_rows])), (h_p0_rows, .inl (cI, 7, .inl p0_rows))]) (wr := [(h_t, .inr (4, [.int t_many, .int t_rank, .int t_sign, .long t_lastPivot, .ref h_t_cells])), (h_t_cells, .inl (cA, 7, .inr (.inr (.inr (.inr (on_rw r_t_cells)))))), on_row cJ r_t_cells t_cells 0, on_row cJ r_t_cells t_cells 1, on_row cJ r_t_cells t_cells 2, on_row cJ r_t_cells t_cells 3, on_row cJ r_t_cells t_cells 4, on_row cJ r_t_cells t_cells 5, on_row cJ r_t_cells t_cells 6]) (wc' := [(h_p0, .inr (0, [.int p0_many, .ref h_p0_rows])), (h_p0_rows, .inl (cI, 7, .inl p0_rows))]) (wf := [(h_t, .inr (4, [.int t_many, .int t_rank, .int t_sign, .long t_lastPivot, .ref h_t_cells])), (h_t_cells, .inl (cA, 7, .inr (.inr (.inr (.inr (on_rw r_t_cells)))))), on_row cJ r_t_cells t_cells 0, on_row cJ r_t_cells t_cells 1, on_row cJ r_t_cells t_cells 2, on_row cJ r_t_cells t_cells 3, on_row cJ r_t_cells t_cells 4, on_row cJ r_t_cells t_cells 5, on_row cJ r_t_cells t_cells 6, (h_p0, .inr (0, [.int p0_many, .ref h_p0_rows])), (h_p0_rows, .inl (cI, 7, .inl p0_rows))]) (rt := (some (.int q_5))) ⟨hx, hb, hml, hown, hts⟩ (k_X0_joined h_p0 h_p0_rows p0_many p0_rows v3 v4 q_5 hq_5) ⟨va_cnB 2 hts gX4_fill_X0_joined_n33 rfl rfl rfl (hN _ (List.mem_of_getElem? (i := 51) rfl)) w5 hdX0_joined ⟨(Nat.le_of_ble_eq_true rfl), (Nat.le_of_ble_eq_true rfl)⟩, w6, w7⟩ hK hN hP hD hS hA [9, 10] [0, 1, 2, 3, 4, 5, 6, 7, 8] [0, 1, 2, 3, 4, 5, 6, 7, 8, 9, 10] rfl rfl rfl rfl (by decide) rfl rfl rfl rfl rfl rfl hl.1 rfl (Nat.le_of_ble_eq_true rfl) rfl dX4_fill_56 ⟨Nat.zero_le _, Nat.zero_le _⟩ (fun H locs hP hD hS => ?_)
          refine lv_imul hx hb dX4_fill_59 ?_
          refine lv_isub hx hb dX4_fill_60 ?_
          refine lv_i2l hx hb dX4_fill_61 rfl ?_
          obtain ⟨g_6, hM⟩ := on_gdE hM
          refine va_last hx hb hK hP hD hS (List.length [(h_t, .inr (4, [.int t_many, .int t_rank, .int t_sign, .long t_lastPivot, .ref h_t_cells])), (h_t_cells, .inl (cA, 7, .inr (.inr (.inr (.inr (on_rw r_t_cells))))))] + (Int32.toNatClampNeg v3)) 1 (on_rowAt [(h_t, .inr (4, [.int t_many, .int t_rank, .int t_sign, .long t_lastPivot, .ref h_t_cells])), (h_t_cells, .inl (cA, 7, .inr (.inr (.inr (.inr (on_rw r_t_cells))))))] [(h_p0, .inr (0, [.int p0_many, .ref h_p0_rows])), (h_p0_rows, .inl (cI, 7, .inl p0_rows))] (on_ix7 g_3)) rfl (on_ixE g_6) dX4_fill_62 (fun H locs hP hD hS => ?_)
          obtain ⟨t_cells_7, et_cells_7⟩ : ∃ z, z = on_up2 t_cells (Int32.toNatClampNeg v3) (vp_updL (t_cells (Int32.toNatClampNeg v3)) (Int32.toNatClampNeg v4) (Int32.toInt64 ((1 : Int32) - ((2 : Int32) * q_5)))) := ⟨_, rfl⟩
          have hM := on_letE et_cells_7 hM
          have hP := on_PE (on_rowSet [(h_t, .inr (4, [.int t_many, .int t_rank, .int t_sign, .long t_lastPivot, .ref h_t_cells])), (h_t_cells, .inl (cA, 7, .inr (.inr (.inr (.inr (on_rw r_t_cells))))))] [(h_p0, .inr (0, [.int p0_many, .ref h_p0_rows])), (h_p0_rows, .inl (cI, 7, .inl p0_rows))] (on_ix7 g_3) _) hP
          have hD := on_DE (on_rowSet [(h_t, .inr (4, [.int t_many, .int t_rank, .int t_sign, .long t_lastPivot, .ref h_t_cells])), (h_t_cells, .inl (cA, 7, .inr (.inr (.inr (.inr (on_rw r_t_cells))))))] [(h_p0, .inr (0, [.int p0_many, .ref h_p0_rows])), (h_p0_rows, .inl (cI, 7, .inl p0_rows))] (on_ix7 g_3) _) hD
          rw [← et_cells_7] at hP hD
          have hP : va_P D vwCl [(h_t, .inr (4, [.int t_many, .int t_rank, .int t_sign, .long t_lastPivot, .ref h_t_cells])), (h_t_cells, .inl (cA, 7, .inr (.inr (.inr (.inr (on_rw r_t_cells)))))), on_row cJ r_t_cells t_cells_7 0, on_row cJ r_t_cells t_cells_7 1, on_row cJ r_t_cells t_cells_7 2, on_row cJ r_t_cells t_cells_7 3, on_row cJ r_t_cells t_cells_7 4, on_row cJ r_t_cells t_cells_7 5, on_row cJ r_t_cells t_cells_7 6, (h_p0, .inr (0, [.int p0_many, .ref h_p0_rows])), (h_p0_rows, .inl (cI, 7, .inl p0_rows))] H := hP
          have hD : va_D A [(h_t, .inr (4, [.int t_many, .int t_rank, .int t_sign, .long t_lastPivot, .ref h_t_cells])), (h_t_cells, .inl (cA, 7, .inr (.inr (.inr (.inr (on_rw r_t_cells)))))), on_row cJ r_t_cells t_cells_7 0, on_row cJ r_t_cells t_cells_7 1, on_row cJ r_t_cells t_cells_7 2, on_row cJ r_t_cells t_cells_7 3, on_row cJ r_t_cells t_cells_7 4, on_row cJ r_t_cells t_cells_7 5, on_row cJ r_t_cells t_cells_7 6, (h_p0, .inr (0, [.int p0_many, .ref h_p0_rows])), (h_p0_rows, .inl (cI, 7, .inl p0_rows))] := hD
          obtain ⟨v4_8, ev4_8⟩ : ∃ z : Int32, z = v4 + 1 := ⟨_, rfl⟩
          have hM := on_letE ev4_8 hM
          refine lv_iinc (v := v4_8) (lv' := [(4, .int v4_8), (0, .ref h_t), (1, .ref h_p0), (2, .int v2), (3, .int v3)]) hx hb dX4_fill_63 hl (k := 4) rfl (by rw [ev4_8]; rfl) (by decide) rfl (fun ls hl => ?_)
          refine lv_goto (tgt := 21) hx hb dX4_fill_66 (by decide) ?_
          have hk := on_nxL hM hk
          exact ih v4_8 t_cells_7 _ hk K1 _ _ hP hD hS ls (lv_sub hl [1, 2, 3, 4, 0] rfl)
        · have hM := on_pos c_4 hM
          refine lv_iload_n hx hb dX4_fill_44 rfl (lv_at hl 2 rfl) ?_
          refine lv_ineg hx hb dX4_fill_45 ?_
          refine lv_i2l hx hb dX4_fill_46 rfl ?_
          refine lv_goto (tgt := 62) hx hb dX4_fill_47 (by decide) ?_
          obtain ⟨g_9, hM⟩ := on_gdE hM
          refine va_last hx hb hK hP hD hS (List.length [(h_t, .inr (4, [.int t_many, .int t_rank, .int t_sign, .long t_lastPivot, .ref h_t_cells])), (h_t_cells, .inl (cA, 7, .inr (.inr (.inr (.inr (on_rw r_t_cells))))))] + (Int32.toNatClampNeg v3)) 1 (on_rowAt [(h_t, .inr (4, [.int t_many, .int t_rank, .int t_sign, .long t_lastPivot, .ref h_t_cells])), (h_t_cells, .inl (cA, 7, .inr (.inr (.inr (.inr (on_rw r_t_cells))))))] [(h_p0, .inr (0, [.int p0_many, .ref h_p0_rows])), (h_p0_rows, .inl (cI, 7, .inl p0_rows))] (on_ix7 g_3)) rfl (on_ixE g_9) dX4_fill_62 (fun H locs hP hD hS => ?_)
          obtain ⟨t_cells_10, et_cells_10⟩ : ∃ z, z = on_up2 t_cells (Int32.toNatClampNeg v3) (vp_updL (t_cells (Int32.toNatClampNeg v3)) (Int32.toNatClampNeg v4) (Int32.toInt64 (-v2))) := ⟨_, rfl⟩
          have hM := on_letE et_cells_10 hM
          have hP := on_PE (on_rowSet [(h_t, .inr (4, [.int t_many, .int t_rank, .int t_sign, .long t_lastPivot, .ref h_t_cells])), (h_t_cells, .inl (cA, 7, .inr (.inr (.inr (.inr (on_rw r_t_cells))))))] [(h_p0, .inr (0, [.int p0_many, .ref h_p0_rows])), (h_p0_rows, .inl (cI, 7, .inl p0_rows))] (on_ix7 g_3) _) hP
          have hD := on_DE (on_rowSet [(h_t, .inr (4, [.int t_many, .int t_rank, .int t_sign, .long t_lastPivot, .ref h_t_cells])), (h_t_cells, .inl (cA, 7, .inr (.inr (.inr (.inr (on_rw r_t_cells))))))] [(h_p0, .inr (0, [.int p0_many, .ref h_p0_rows])), (h_p0_rows, .inl (cI, 7, .inl p0_rows))] (on_ix7 g_3) _) hD
          rw [← et_cells_10] at hP hD
          have hP : va_P D vwCl [(h_t, .inr (4, [.int t_many, .int t_rank, .int t_sign, .long t_lastPivot, .ref h_t_cells])), (h_t_cells, .inl (cA, 7, .inr (.inr (.inr (.inr (on_rw r_t_cells)))))), on_row cJ r_t_cells t_cells_10 0, on_row cJ r_t_cells t_cells_10 1, on_row cJ r_t_cells t_cells_10 2, on_row cJ r_t_cells t_cells_10 3, on_row cJ r_t_cells t_cells_10 4, on_row cJ r_t_cells t_cells_10 5, on_row cJ r_t_cells t_cells_10 6, (h_p0, .inr (0, [.int p0_many, .ref h_p0_rows])), (h_p0_rows, .inl (cI, 7, .inl p0_rows))] H := hP
          have hD : va_D A [(h_t, .inr (4, [.int t_many, .int t_rank, .int t_sign, .long t_lastPivot, .ref h_t_cells])), (h_t_cells, .inl (cA, 7, .inr (.inr (.inr (.inr (on_rw r_t_cells)))))), on_row cJ r_t_cells t_cells_10 0, on_row cJ r_t_cells t_cells_10 1, on_row cJ r_t_cells t_cells_10 2, on_row cJ r_t_cells t_cells_10 3, on_row cJ r_t_cells t_cells_10 4, on_row cJ r_t_cells t_cells_10 5, on_row cJ r_t_cells t_cells_10 6, (h_p0, .inr (0, [.int p0_many, .ref h_p0_rows])), (h_p0_rows, .inl (cI, 7, .inl p0_rows))] := hD
          obtain ⟨v4_11, ev4_11⟩ : ∃ z : Int32, z = v4 + 1 := ⟨_, rfl⟩
          have hM := on_letE ev4_11 hM
          refine lv_iinc (v := v4_11) (lv' := [(4, .int v4_11), (0, .ref h_t), (1, .ref h_p0), (2, .int v2), (3, .int v3)]) hx hb dX4_fill_63 hl (k := 4) rfl (by rw [ev4_11]; rfl) (by decide) rfl (fun ls hl => ?_)
          refine lv_goto (tgt := 21) hx hb dX4_fill_66 (by decide) ?_
          have hk := on_nxL hM hk
          exact ih v4_11 t_cells_10 _ hk K1 _ _ hP hD hS ls (lv_sub hl [1, 2, 3, 4, 0] rfl)
  have lp_10 : ∀ (v2 : Int32) (t_many : Int32), ∀ (n : Nat) (v3 : Int32) (t_cells : Nat → Nat → Int64) (x : (Nat → Nat → Int64)), on_loop (fun (s : Int32 × (Nat → Nat → Int64)) => B_X4_fill_10 v2 t_many p0_rows s.1 s.2) n (v3, t_cells) = some x → (∀ (H : Heap) (locs : List Loc), va_P D vwCl [(h_t, .inr (4, [.int t_many, .int t_rank, .int t_sign, .long t_lastPivot, .ref h_t_cells])), (h_t_cells, .inl (cA, 7, .inr (.inr (.inr (.inr (on_rw r_t_cells)))))), on_row cJ r_t_cells x 0, on_row cJ r_t_cells x 1, on_row cJ r_t_cells x 2, on_row cJ r_t_cells x 3, on_row cJ r_t_cells x 4, on_row cJ r_t_cells x 5, on_row cJ r_t_cells x 6, (h_p0, .inr (0, [.int p0_many, .ref h_p0_rows])), (h_p0_rows, .inl (cI, 7, .inl p0_rows))] H → va_D A [(h_t, .inr (4, [.int t_many, .int t_rank, .int t_sign, .long t_lastPivot, .ref h_t_cells])), (h_t_cells, .inl (cA, 7, .inr (.inr (.inr (.inr (on_rw r_t_cells)))))), on_row cJ r_t_cells x 0, on_row cJ r_t_cells x 1, on_row cJ r_t_cells x 2, on_row cJ r_t_cells x 3, on_row cJ r_t_cells x 4, on_row cJ r_t_cells x 5, on_row cJ r_t_cells x 6, (h_p0, .inr (0, [.int p0_many, .ref h_p0_rows])), (h_p0_rows, .inl (cI, 7, .inl p0_rows))] → va_S A s.heap H locs → ∀ ls : Array Slot, lv_has ls 5 [] → W p l e rm_X4_fill s m args below meth c H locs 0 0 Q (F0 m 75 ls [])) → ∀ (H : Heap) (locs : List Loc), va_P D vwCl [(h_t, .inr (4, [.int t_many, .int t_rank, .int t_sign, .long t_lastPivot, .ref h_t_cells])), (h_t_cells, .inl (cA, 7, .inr (.inr (.inr (.inr (on_rw r_t_cells)))))), on_row cJ r_t_cells t_cells 0, on_row cJ r_t_cells t_cells 1, on_row cJ r_t_cells t_cells 2, on_row cJ r_t_cells t_cells 3, on_row cJ r_t_cells t_cells 4, on_row cJ r_t_cells t_cells 5, on_row cJ r_t_cells t_cells 6, (h_p0, .inr (0, [.int p0_many, .ref h_p0_rows])), (h_p0_rows, .inl (cI, 7, .inl p0_rows))] H → va_D A [(h_t, .inr (4, [.int t_many, .int t_rank, .int t_sign, .long t_lastPivot, .ref h_t_cells])), (h_t_cells, .inl (cA, 7, .inr (.inr (.inr (.inr (on_rw r_t_cells)))))), on_row cJ r_t_cells t_cells 0, on_row cJ r_t_cells t_cells 1, on_row cJ r_t_cells t_cells 2, on_row cJ r_t_cells t_cells 3, on_row cJ r_t_cells t_cells 4, on_row cJ r_t_cells t_cells 5, on_row cJ r_t_cells t_cells 6, (h_p0, .inr (0, [.int p0_many, .ref h_p0_rows])), (h_p0_rows, .inl (cI, 7, .inl p0_rows))] → va_S A s.heap H locs → ∀ ls : Array Slot, lv_has ls 5 [(0, .ref h_t), (1, .ref h_p0), (2, .int v2), (3, .int v3)] → W p l e rm_X4_fill s m args below meth c H locs 0 0 Q (F0 m 10 ls []) := by
    intro v2 t_many
    intro n
    induction n with
    | zero =>
      intro v3 t_cells x hL
      exact (on_loop0 hL).elim
    | succ n ih =>
      intro v3 t_cells x hL K1 H locs hP hD hS ls hl
      obtain ⟨y, hM, hk⟩ := on_loopE hL
      have hM : B_X4_fill_10 v2 t_many p0_rows v3 t_cells = some y := hM
      unfold B_X4_fill_10 at hM
      refine lv_iload_n hx hb dX4_fill_10 rfl (lv_at hl 3 rfl) ?_
      refine lv_aload_n hx hb dX4_fill_11 rfl (lv_at hl 0 rfl) ?_
      refine va_get (D := D) (ci := 4) (v := .int t_many) (C := RX4) (T := TX4) (N := 5) hx hb hts w3 hown hK hP 0 rfl rfl 0 (by decide) w2 (fun _ h9 => h9) rfl dX4_fill_12 ?_
      refine lv_icmp_ge (tgt := 75) hx hb dX4_fill_15 (by decide) (fun c_1 => ?_) (fun c_1 => ?_)
      · have hM := on_pos c_1 hM
        have hk := on_nxR hM hk
        subst hk
        exact K1 _ _ hP hD hS ls (lv_sub hl [] rfl)
      · have hM := on_neg c_1 hM
        refine lv_iconst (v := 0) hx hb dX4_fill_18 (by decide) ?_
        refine lv_istore (lv' := [(4, .int (0 : Int32)), (0, .ref h_t), (1, .ref h_p0), (2, .int v2), (3, .int v3)]) hx hb dX4_fill_19 hl (by decide) rfl (fun ls hl => ?_)
        obtain ⟨q_12, hq_12, hM⟩ := on_bind hM
        refine lp_21 v2 v3 t_many on_F (0 : Int32) t_cells q_12 hq_12 (fun H locs hP hD hS ls hl => ?_) H locs hP hD hS ls (lv_sub hl [1, 2, 3, 4, 0] rfl)
        obtain ⟨v3_13, ev3_13⟩ : ∃ z : Int32, z = v3 + 1 := ⟨_, rfl⟩
        have hM := on_letE ev3_13 hM
        refine lv_iinc (v := v3_13) (lv' := [(3, .int v3_13), (0, .ref h_t), (1, .ref h_p0), (2, .int v2)]) hx hb dX4_fill_69 hl (k := 3) rfl (by rw [ev3_13]; rfl) (by decide) rfl (fun ls hl => ?_)
        refine lv_goto (tgt := 10) hx hb dX4_fill_72 (by decide) ?_
        have hk := on_nxL hM hk
        exact ih v3_13 q_12 _ hk K1 _ _ hP hD hS ls (lv_sub hl [1, 2, 3, 0] rfl)
  refine lv_aload_n hx hb dX4_fill_0 rfl (lv_at hl 0 rfl) ?_
  refine lv_aload_n hx hb dX4_fill_1 rfl (lv_at hl 1 rfl) ?_
  refine va_getN (D := D) (ci := 0) (v := .int p0_many) (C := RX0) (T := TX0) (N := 2) hx hb hts w1 hown hK hP 9 rfl rfl 0 (by decide) (va_Nw.use rfl (hN _ (List.mem_of_getElem? (i := 4) rfl))) (fun _ h9 => h9) rfl dX4_fill_2 ?_
  refine va_put (D := D) (ci := 4) (v := .int p0_many) (ty := .int) (C := RX4) (T := TX4) (N := 5) hx hb hts w3 tyX4 tyX4_ok nmX4 hown hK hP hD hS 0 rfl rfl 0 (by decide) w2 (fun _ h9 => h9) rfl (by decide +kernel) rfl rfl (Nat.le_of_ble_eq_true rfl) dX4_fill_5 (fun H locs hP hD hS => ?_)
  have hP : va_P D vwCl [(h_t, .inr (4, [.int p0_many, .int t_rank, .int t_sign, .long t_lastPivot, .ref h_t_cells])), (h_t_cells, .inl (cA, 7, .inr (.inr (.inr (.inr (on_rw r_t_cells)))))), on_row cJ r_t_cells t_cells 0, on_row cJ r_t_cells t_cells 1, on_row cJ r_t_cells t_cells 2, on_row cJ r_t_cells t_cells 3, on_row cJ r_t_cells t_cells 4, on_row cJ r_t_cells t_cells 5, on_row cJ r_t_cells t_cells 6, (h_p0, .inr (0, [.int p0_many, .ref h_p0_rows])), (h_p0_rows, .inl (cI, 7, .inl p0_rows))] H := hP
  have hD : va_D A [(h_t, .inr (4, [.int p0_many, .int t_rank, .int t_sign, .long t_lastPivot, .ref h_t_cells])), (h_t_cells, .inl (cA, 7, .inr (.inr (.inr (.inr (on_rw r_t_cells)))))), on_row cJ r_t_cells t_cells 0, on_row cJ r_t_cells t_cells 1, on_row cJ r_t_cells t_cells 2, on_row cJ r_t_cells t_cells 3, on_row cJ r_t_cells t_cells 4, on_row cJ r_t_cells t_cells 5, on_row cJ r_t_cells t_cells 6, (h_p0, .inr (0, [.int p0_many, .ref h_p0_rows])), (h_p0_rows, .inl (cI, 7, .inl p0_rows))] := hD
  refine lv_iconst (v := 0) hx hb dX4_fill_8 (by decide) ?_
  refine lv_istore_n (lv' := [(3, .int (0 : Int32)), (0, .ref h_t), (1, .ref h_p0), (2, .int v2)]) hx hb dX4_fill_9 rfl hl (by decide) rfl (fun ls hl => ?_)
  obtain ⟨q_14, hq_14, hM⟩ := on_bind hM
  refine lp_10 v2 p0_many on_F (0 : Int32) t_cells q_14 hq_14 (fun H locs hP hD hS ls hl => ?_) H locs hP hD hS ls (lv_sub hl [1, 2, 3, 0] rfl)
  have hM := Option.some.inj hM
  subst hM
  rw [← hQ]
  exact on_vret hx hb hr hlk hP hD hS dX4_fill_75
abbrev rm_X4_pivotRow : Room := { frames := 0, cells := 0, slots := 0, locals := 0 }
set_option maxHeartbeats 4000000 in
set_option maxRecDepth 100000 in
theorem k_X4_pivotRow {l : Launch} {D : va_G} {cI cJ cZ cS cA : ClassId} (h_t : Nat) (h_t_cells : Nat) (r_t_cells : Nat → Nat) (t_many : Int32) (t_rank : Int32) (t_sign : Int32) (t_lastPivot : Int64) (t_cells : Nat → Nat → Int64) (v1 : Int32) (out : Int32) (hM : M_X4_pivotRow v1 t_many t_rank t_cells = some out) : on_Con l yX4_pivotRow wsX4_pivotRow rm_X4_pivotRow [.ref h_t, .int v1] D (on_T cI cJ cZ cS cA) [(h_t, .inr (4, [.int t_many, .int t_rank, .int t_sign, .long t_lastPivot, .ref h_t_cells])), (h_t_cells, .inl (cA, 7, .inr (.inr (.inr (.inr (on_rw r_t_cells)))))), on_row cJ r_t_cells t_cells 0, on_row cJ r_t_cells t_cells 1, on_row cJ r_t_cells t_cells 2, on_row cJ r_t_cells t_cells 3, on_row cJ r_t_cells t_cells 4, on_row cJ r_t_cells t_cells 5, on_row cJ r_t_cells t_cells 6] (some (.int out)) [(h_t, .inr (4, [.int t_many, .int t_rank, .int t_sign, .long t_lastPivot, .ref h_t_cells])), (h_t_cells, .inl (cA, 7, .inr (.inr (.inr (.inr (on_rw r_t_cells)))))), on_row cJ r_t_cells t_cells 0, on_row cJ r_t_cells t_cells 1, on_row cJ r_t_cells t_cells 2, on_row cJ r_t_cells t_cells 3, on_row cJ r_t_cells t_cells 4, on_row cJ r_t_cells t_cells 5, on_row cJ r_t_cells t_cells 6] := by
  unfold M_X4_pivotRow at hM
  refine on_enter (cc := cX4_pivotRow) (nL := 3) (rt := (some .int)) (own := RX4) (by decide +kernel) rfl rfl (Nat.le_of_ble_eq_true rfl) ?_
  intro p e s m below meth c A ls hx hb hml hr hlk hts hown hA hK hN H locs hP hD hS hl
  have hl : lv_has ls 3 [(0, .ref h_t), (1, .int v1)] := hl
  generalize hQ : MQ below (on_Q D (some (.int out)) [(h_t, .inr (4, [.int t_many, .int t_rank, .int t_sign, .long t_lastPivot, .ref h_t_cells])), (h_t_cells, .inl (cA, 7, .inr (.inr (.inr (.inr (on_rw r_t_cells)))))), on_row cJ r_t_cells t_cells 0, on_row cJ r_t_cells t_cells 1, on_row cJ r_t_cells t_cells 2, on_row cJ r_t_cells t_cells 3, on_row cJ r_t_cells t_cells 4, on_row cJ r_t_cells t_cells 5, on_row cJ r_t_cells t_cells 6] A) _ s 0 0 A = Q
  generalize hAr : List.toArray ([.ref h_t, .int v1] : List Value) = args at hts hQ ⊢
  have w1 := hts (.fieldLink RX4 15 "OddNets$Table" "rank" "I") (by decide +kernel)
  have w2 : ∀ w ∈ wsX40, w ∈ wsX4_pivotRow := by decide +kernel
  have w3 := hts (.fieldLink RX4 9 "OddNets$Table" "many" "I") (by decide +kernel)
  have w4 := hts (.fieldLink RX4 27 "OddNets$Table" "cells" "[[J") (by decide +kernel)
  have lp_5 : ∀ (v1 : Int32), ∀ (n : Nat) (v2 : Int32) (x : Int32), on_loop (fun (s : Int32) => B_X4_pivotRow_5 v1 t_many t_cells s) n v2 = some x → (∀ (H : Heap) (locs : List Loc), va_P D vwCl [(h_t, .inr (4, [.int t_many, .int t_rank, .int t_sign, .long t_lastPivot, .ref h_t_cells])), (h_t_cells, .inl (cA, 7, .inr (.inr (.inr (.inr (on_rw r_t_cells)))))), on_row cJ r_t_cells t_cells 0, on_row cJ r_t_cells t_cells 1, on_row cJ r_t_cells t_cells 2, on_row cJ r_t_cells t_cells 3, on_row cJ r_t_cells t_cells 4, on_row cJ r_t_cells t_cells 5, on_row cJ r_t_cells t_cells 6] H → va_D A [(h_t, .inr (4, [.int t_many, .int t_rank, .int t_sign, .long t_lastPivot, .ref h_t_cells])), (h_t_cells, .inl (cA, 7, .inr (.inr (.inr (.inr (on_rw r_t_cells)))))), on_row cJ r_t_cells t_cells 0, on_row cJ r_t_cells t_cells 1, on_row cJ r_t_cells t_cells 2, on_row cJ r_t_cells t_cells 3, on_row cJ r_t_cells t_cells 4, on_row cJ r_t_cells t_cells 5, on_row cJ r_t_cells t_cells 6] → va_S A s.heap H locs → ∀ ls : Array Slot, lv_has ls 3 [(2, .int x)] → W p l e rm_X4_pivotRow s m args below meth c H locs 0 0 Q (F0 m 32 ls [])) → ∀ (H : Heap) (locs : List Loc), va_P D vwCl [(h_t, .inr (4, [.int t_many, .int t_rank, .int t_sign, .long t_lastPivot, .ref h_t_cells])), (h_t_cells, .inl (cA, 7, .inr (.inr (.inr (.inr (on_rw r_t_cells)))))), on_row cJ r_t_cells t_cells 0, on_row cJ r_t_cells t_cells 1, on_row cJ r_t_cells t_cells 2, on_row cJ r_t_cells t_cells 3, on_row cJ r_t_cells t_cells 4, on_row cJ r_t_cells t_cells 5, on_row cJ r_t_cells t_cells 6] H → va_D A [(h_t, .inr (4, [.int t_many, .int t_rank, .int t_sign, .long t_lastPivot, .ref h_t_cells])), (h_t_cells, .inl (cA, 7, .inr (.inr (.inr (.inr (on_rw r_t_cells)))))), on_row cJ r_t_cells t_cells 0, on_row cJ r_t_cells t_cells 1, on_row cJ r_t_cells t_cells 2, on_row cJ r_t_cells t_cells 3, on_row cJ r_t_cells t_cells 4, on_row cJ r_t_cells t_cells 5, on_row cJ r_t_cells t_cells 6] → va_S A s.heap H locs → ∀ ls : Array Slot, lv_has ls 3 [(0, .ref h_t), (1, .int v1), (2, .int v2)] → W p l e rm_X4_pivotRow s m args below meth c H locs 0 0 Q (F0 m 5 ls []) := by
    intro v1
    intro n
    induction n with
    | zero =>
      intro v2 x hL
      exact (on_loop0 hL).elim
    | succ n ih =>
      intro v2 x hL K1 H locs hP hD hS ls hl
      obtain ⟨y, hM, hk⟩ := on_loopE hL
      have hM : B_X4_pivotRow_5 v1 t_many t_cells v2 = some y := hM
      unfold B_X4_pivotRow_5 at hM
      refine lv_iload_n hx hb dX4_pivotRow_5 rfl (lv_at hl 2 rfl) ?_
      refine lv_aload_n hx hb dX4_pivotRow_6 rfl (lv_at hl 0 rfl) ?_
      refine va_get (D := D) (ci := 4) (v := .int t_many) (C := RX4) (T := TX4) (N := 5) hx hb hts w2 hown hK hP 0 rfl rfl 0 (by decide) w3 (fun _ h9 => h9) rfl dX4_pivotRow_7 ?_
      refine lv_icmp_ge (tgt := 32) hx hb dX4_pivotRow_10 (by decide) (fun c_1 => ?_) (fun c_1 => ?_)
      · have hM := on_pos c_1 hM
        have hk := on_nxR hM hk
        subst hk
        exact K1 _ _ hP hD hS ls (lv_sub hl [2] rfl)
      · have hM := on_neg c_1 hM
        refine lv_aload_n hx hb dX4_pivotRow_13 rfl (lv_at hl 0 rfl) ?_
        refine va_get (D := D) (ci := 4) (v := .ref h_t_cells) (C := RX4) (T := TX4) (N := 5) hx hb hts w2 hown hK hP 0 rfl rfl 4 (by decide) w4 (fun _ h9 => h9) rfl dX4_pivotRow_14 ?_
        refine lv_iload_n hx hb dX4_pivotRow_17 rfl (lv_at hl 2 rfl) ?_
        obtain ⟨g_2, hM⟩ := on_gdE hM
        refine on_aldA hx hb hK hP 1 4 rfl rfl (on_ixE g_2) dX4_pivotRow_18 ?_
        rw [on_rwE g_2]
        refine lv_iload_n hx hb dX4_pivotRow_19 rfl (lv_at hl 1 rfl) ?_
        obtain ⟨g_3, hM⟩ := on_gdE hM
        refine va_lald hx hb hK hP (List.length [(h_t, .inr (4, [.int t_many, .int t_rank, .int t_sign, .long t_lastPivot, .ref h_t_cells])), (h_t_cells, .inl (cA, 7, .inr (.inr (.inr (.inr (on_rw r_t_cells))))))] + (Int32.toNatClampNeg v2)) 1 (on_rowAt [(h_t, .inr (4, [.int t_many, .int t_rank, .int t_sign, .long t_lastPivot, .ref h_t_cells])), (h_t_cells, .inl (cA, 7, .inr (.inr (.inr (.inr (on_rw r_t_cells))))))] [] (on_ix7 g_2)) rfl (on_ixE g_3) dX4_pivotRow_20 ?_
        refine lv_lconst (v := 0) hx hb dX4_pivotRow_21 (by decide) ?_
        refine W.lcmp hx hb dX4_pivotRow_22 ?_
        refine lv_if_ne (tgt := 32) hx hb dX4_pivotRow_23 (by decide) (fun c_4 => ?_) (fun c_4 => ?_)
        · have hM := on_neg c_4 hM
          have hk := on_nxR hM hk
          subst hk
          exact K1 _ _ hP hD hS ls (lv_sub hl [2] rfl)
        · have hM := on_pos c_4 hM
          obtain ⟨v2_5, ev2_5⟩ : ∃ z : Int32, z = v2 + 1 := ⟨_, rfl⟩
          have hM := on_letE ev2_5 hM
          refine lv_iinc (v := v2_5) (lv' := [(2, .int v2_5), (0, .ref h_t), (1, .int v1)]) hx hb dX4_pivotRow_26 hl (k := 2) rfl (by rw [ev2_5]; rfl) (by decide) rfl (fun ls hl => ?_)
          refine lv_goto (tgt := 5) hx hb dX4_pivotRow_29 (by decide) ?_
          have hk := on_nxL hM hk
          exact ih v2_5 _ hk K1 _ _ hP hD hS ls (lv_sub hl [1, 2, 0] rfl)
  refine lv_aload_n hx hb dX4_pivotRow_0 rfl (lv_at hl 0 rfl) ?_
  refine va_get (D := D) (ci := 4) (v := .int t_rank) (C := RX4) (T := TX4) (N := 5) hx hb hts w2 hown hK hP 0 rfl rfl 1 (by decide) w1 (fun _ h9 => h9) rfl dX4_pivotRow_1 ?_
  refine lv_istore_n (lv' := [(2, .int t_rank), (0, .ref h_t), (1, .int v1)]) hx hb dX4_pivotRow_4 rfl hl (by decide) rfl (fun ls hl => ?_)
  obtain ⟨q_6, hq_6, hM⟩ := on_bind hM
  refine lp_5 v1 on_F t_rank q_6 hq_6 (fun H locs hP hD hS ls hl => ?_) H locs hP hD hS ls (lv_sub hl [1, 2, 0] rfl)
  refine lv_iload_n hx hb dX4_pivotRow_32 rfl (lv_at hl 0 rfl) ?_
  have hM := Option.some.inj hM
  subst hM
  rw [← hQ]
  exact on_iret hx hb hr hlk hP hD hS dX4_pivotRow_33
abbrev rm_X4_bringUp : Room := { frames := 0, cells := 0, slots := 0, locals := 0 }
set_option maxHeartbeats 4000000 in
set_option maxRecDepth 100000 in
theorem k_X4_bringUp {l : Launch} {D : va_G} {cI cJ cZ cS cA : ClassId} (h_t : Nat) (h_t_cells : Nat) (r_t_cells : Nat → Nat) (t_many : Int32) (t_rank : Int32) (t_sign : Int32) (t_lastPivot : Int64) (t_cells : Nat → Nat → Int64) (v1 : Int32) (out : Int32 × (Nat → Nat → Int64)) (hM : M_X4_bringUp v1 t_many t_rank t_sign t_cells = some out) : on_Con l yX4_bringUp wsX4_bringUp rm_X4_bringUp [.ref h_t, .int v1] D (on_T cI cJ cZ cS cA) [(h_t, .inr (4, [.int t_many, .int t_rank, .int t_sign, .long t_lastPivot, .ref h_t_cells])), (h_t_cells, .inl (cA, 7, .inr (.inr (.inr (.inr (on_rw r_t_cells)))))), on_row cJ r_t_cells t_cells 0, on_row cJ r_t_cells t_cells 1, on_row cJ r_t_cells t_cells 2, on_row cJ r_t_cells t_cells 3, on_row cJ r_t_cells t_cells 4, on_row cJ r_t_cells t_cells 5, on_row cJ r_t_cells t_cells 6] none [(h_t, .inr (4, [.int t_many, .int t_rank, .int out.1, .long t_lastPivot, .ref h_t_cells])), (h_t_cells, .inl (cA, 7, .inr (.inr (.inr (.inr (on_rw r_t_cells)))))), on_row cJ r_t_cells out.2 0, on_row cJ r_t_cells out.2 1, on_row cJ r_t_cells out.2 2, on_row cJ r_t_cells out.2 3, on_row cJ r_t_cells out.2 4, on_row cJ r_t_cells out.2 5, on_row cJ r_t_cells out.2 6] := by
  unfold M_X4_bringUp at hM
  refine on_enter (cc := cX4_bringUp) (nL := 5) (rt := none) (own := RX4) (by decide +kernel) rfl rfl (Nat.le_of_ble_eq_true rfl) ?_
  intro p e s m below meth c A ls hx hb hml hr hlk hts hown hA hK hN H locs hP hD hS hl
  have hl : lv_has ls 5 [(0, .ref h_t), (1, .int v1)] := hl
  generalize hQ : MQ below (on_Q D none [(h_t, .inr (4, [.int t_many, .int t_rank, .int out.1, .long t_lastPivot, .ref h_t_cells])), (h_t_cells, .inl (cA, 7, .inr (.inr (.inr (.inr (on_rw r_t_cells)))))), on_row cJ r_t_cells out.2 0, on_row cJ r_t_cells out.2 1, on_row cJ r_t_cells out.2 2, on_row cJ r_t_cells out.2 3, on_row cJ r_t_cells out.2 4, on_row cJ r_t_cells out.2 5, on_row cJ r_t_cells out.2 6] A) _ s 0 0 A = Q
  generalize hAr : List.toArray ([.ref h_t, .int v1] : List Value) = args at hts hQ ⊢
  have w1 := hts (.fieldLink RX4 15 "OddNets$Table" "rank" "I") (by decide +kernel)
  have w2 : ∀ w ∈ wsX40, w ∈ wsX4_bringUp := by decide +kernel
  have w3 := hts (.fieldLink RX4 9 "OddNets$Table" "many" "I") (by decide +kernel)
  have w4 := hts (.fieldLink RX4 27 "OddNets$Table" "cells" "[[J") (by decide +kernel)
  have w5 := hts (.fieldLink RX4 18 "OddNets$Table" "sign" "I") (by decide +kernel)
  have lp_11 : ∀ (v1 : Int32) (t_sign : Int32), ∀ (n : Nat) (v2 : Int32) (t_cells : Nat → Nat → Int64) (x : (Nat → Nat → Int64)), on_loop (fun (s : Int32 × (Nat → Nat → Int64)) => B_X4_bringUp_11 v1 t_many t_rank s.1 s.2) n (v2, t_cells) = some x → (∀ (H : Heap) (locs : List Loc), va_P D vwCl [(h_t, .inr (4, [.int t_many, .int t_rank, .int t_sign, .long t_lastPivot, .ref h_t_cells])), (h_t_cells, .inl (cA, 7, .inr (.inr (.inr (.inr (on_rw r_t_cells)))))), on_row cJ r_t_cells x 0, on_row cJ r_t_cells x 1, on_row cJ r_t_cells x 2, on_row cJ r_t_cells x 3, on_row cJ r_t_cells x 4, on_row cJ r_t_cells x 5, on_row cJ r_t_cells x 6] H → va_D A [(h_t, .inr (4, [.int t_many, .int t_rank, .int t_sign, .long t_lastPivot, .ref h_t_cells])), (h_t_cells, .inl (cA, 7, .inr (.inr (.inr (.inr (on_rw r_t_cells)))))), on_row cJ r_t_cells x 0, on_row cJ r_t_cells x 1, on_row cJ r_t_cells x 2, on_row cJ r_t_cells x 3, on_row cJ r_t_cells x 4, on_row cJ r_t_cells x 5, on_row cJ r_t_cells x 6] → va_S A s.heap H locs → ∀ ls : Array Slot, lv_has ls 5 [(0, .ref h_t)] → W p l e rm_X4_bringUp s m args below meth c H locs 0 0 Q (F0 m 65 ls [])) → ∀ (H : Heap) (locs : List Loc), va_P D vwCl [(h_t, .inr (4, [.int t_many, .int t_rank, .int t_sign, .long t_lastPivot, .ref h_t_cells])), (h_t_cells, .inl (cA, 7, .inr (.inr (.inr (.inr (on_rw r_t_cells)))))), on_row cJ r_t_cells t_cells 0, on_row cJ r_t_cells t_cells 1, on_row cJ r_t_cells t_cells 2, on_row cJ r_t_cells t_cells 3, on_row cJ r_t_cells t_cells 4, on_row cJ r_t_cells t_cells 5, on_row cJ r_t_cells t_cells 6] H → va_D A [(h_t, .inr (4, [.int t_many, .int t_rank, .int t_sign, .long t_lastPivot, .ref h_t_cells])), (h_t_cells, .inl (cA, 7, .inr (.inr (.inr (.inr (on_rw r_t_cells)))))), on_row cJ r_t_cells t_cells 0, on_row cJ r_t_cells t_cells 1, on_row cJ r_t_cells t_cells 2, on_row cJ r_t_cells t_cells 3, on_row cJ r_t_cells t_cells 4, on_row cJ r_t_cells t_cells 5, on_row cJ r_t_cells t_cells 6] → va_S A s.heap H locs → ∀ ls : Array Slot, lv_has ls 5 [(0, .ref h_t), (1, .int v1), (2, .int v2)] → W p l e rm_X4_bringUp s m args below meth c H locs 0 0 Q (F0 m 11 ls []) := by
    intro v1 t_sign
    intro n
    induction n with
    | zero =>
      intro v2 t_cells x hL
      exact (on_loop0 hL).elim
    | succ n ih =>
      intro v2 t_cells x hL K1 H locs hP hD hS ls hl
      obtain ⟨y, hM, hk⟩ := on_loopE hL
      have hM : B_X4_bringUp_11 v1 t_many t_rank v2 t_cells = some y := hM
      unfold B_X4_bringUp_11 at hM
      refine lv_iload_n hx hb dX4_bringUp_11 rfl (lv_at hl 2 rfl) ?_
      refine lv_aload_n hx hb dX4_bringUp_12 rfl (lv_at hl 0 rfl) ?_
      refine va_get (D := D) (ci := 4) (v := .int t_many) (C := RX4) (T := TX4) (N := 5) hx hb hts w2 hown hK hP 0 rfl rfl 0 (by decide) w3 (fun _ h9 => h9) rfl dX4_bringUp_13 ?_
      refine lv_icmp_ge (tgt := 65) hx hb dX4_bringUp_16 (by decide) (fun c_2 => ?_) (fun c_2 => ?_)
      · have hM := on_pos c_2 hM
        have hk := on_nxR hM hk
        subst hk
        exact K1 _ _ hP hD hS ls (lv_sub hl [0] rfl)
      · have hM := on_neg c_2 hM
        refine lv_aload_n hx hb dX4_bringUp_19 rfl (lv_at hl 0 rfl) ?_
        refine va_get (D := D) (ci := 4) (v := .ref h_t_cells) (C := RX4) (T := TX4) (N := 5) hx hb hts w2 hown hK hP 0 rfl rfl 4 (by decide) w4 (fun _ h9 => h9) rfl dX4_bringUp_20 ?_
        refine lv_aload_n hx hb dX4_bringUp_23 rfl (lv_at hl 0 rfl) ?_
        refine va_get (D := D) (ci := 4) (v := .int t_rank) (C := RX4) (T := TX4) (N := 5) hx hb hts w2 hown hK hP 0 rfl rfl 1 (by decide) w1 (fun _ h9 => h9) rfl dX4_bringUp_24 ?_
        obtain ⟨g_3, hM⟩ := on_gdE hM
        refine on_aldA hx hb hK hP 1 4 rfl rfl (on_ixE g_3) dX4_bringUp_27 ?_
        rw [on_rwE g_3]
        refine lv_iload_n hx hb dX4_bringUp_28 rfl (lv_at hl 2 rfl) ?_
        obtain ⟨g_4, hM⟩ := on_gdE hM
        refine va_lald hx hb hK hP (List.length [(h_t, .inr (4, [.int t_many, .int t_rank, .int t_sign, .long t_lastPivot, .ref h_t_cells])), (h_t_cells, .inl (cA, 7, .inr (.inr (.inr (.inr (on_rw r_t_cells))))))] + (Int32.toNatClampNeg t_rank)) 1 (on_rowAt [(h_t, .inr (4, [.int t_many, .int t_rank, .int t_sign, .long t_lastPivot, .ref h_t_cells])), (h_t_cells, .inl (cA, 7, .inr (.inr (.inr (.inr (on_rw r_t_cells))))))] [] (on_ix7 g_3)) rfl (on_ixE g_4) dX4_bringUp_29 ?_
        refine lv_topl (fun v3_5 ev3_5 => ?_)
        have hM := on_letE ev3_5 hM
        refine lv_lstore_n (lv' := [(3, .long v3_5), (0, .ref h_t), (1, .int v1), (2, .int v2)]) hx hb dX4_bringUp_30 rfl hl (by decide) rfl (fun ls hl => ?_)
        refine lv_aload_n hx hb dX4_bringUp_31 rfl (lv_at hl 1 rfl) ?_
        refine va_get (D := D) (ci := 4) (v := .ref h_t_cells) (C := RX4) (T := TX4) (N := 5) hx hb hts w2 hown hK hP 0 rfl rfl 4 (by decide) w4 (fun _ h9 => h9) rfl dX4_bringUp_32 ?_
        refine lv_aload_n hx hb dX4_bringUp_35 rfl (lv_at hl 1 rfl) ?_
        refine va_get (D := D) (ci := 4) (v := .int t_rank) (C := RX4) (T := TX4) (N := 5) hx hb hts w2 hown hK hP 0 rfl rfl 1 (by decide) w1 (fun _ h9 => h9) rfl dX4_bringUp_36 ?_
        obtain ⟨g_6, hM⟩ := on_gdE hM
        refine on_aldA hx hb hK hP 1 4 rfl rfl (on_ixE g_6) dX4_bringUp_39 ?_
        rw [on_rwE g_6]
        refine lv_iload_n hx hb dX4_bringUp_40 rfl (lv_at hl 3 rfl) ?_
        refine lv_aload_n hx hb dX4_bringUp_41 rfl (lv_at hl 1 rfl) ?_
        refine va_get (D := D) (ci := 4) (v := .ref h_t_cells) (C := RX4) (T := TX4) (N := 5) hx hb hts w2 hown hK hP 0 rfl rfl 4 (by decide) w4 (fun _ h9 => h9) rfl dX4_bringUp_42 ?_
        refine lv_iload_n hx hb dX4_bringUp_45 rfl (lv_at hl 2 rfl) ?_
        obtain ⟨g_7, hM⟩ := on_gdE hM
        refine on_aldA hx hb hK hP 1 4 rfl rfl (on_ixE g_7) dX4_bringUp_46 ?_
        rw [on_rwE g_7]
        refine lv_iload_n hx hb dX4_bringUp_47 rfl (lv_at hl 3 rfl) ?_
        obtain ⟨g_8, hM⟩ := on_gdE hM
        refine va_lald hx hb hK hP (List.length [(h_t, .inr (4, [.int t_many, .int t_rank, .int t_sign, .long t_lastPivot, .ref h_t_cells])), (h_t_cells, .inl (cA, 7, .inr (.inr (.inr (.inr (on_rw r_t_cells))))))] + (Int32.toNatClampNeg v1)) 1 (on_rowAt [(h_t, .inr (4, [.int t_many, .int t_rank, .int t_sign, .long t_lastPivot, .ref h_t_cells])), (h_t_cells, .inl (cA, 7, .inr (.inr (.inr (.inr (on_rw r_t_cells))))))] [] (on_ix7 g_7)) rfl (on_ixE g_8) dX4_bringUp_48 ?_
        obtain ⟨g_9, hM⟩ := on_gdE hM
        refine va_last hx hb hK hP hD hS (List.length [(h_t, .inr (4, [.int t_many, .int t_rank, .int t_sign, .long t_lastPivot, .ref h_t_cells])), (h_t_cells, .inl (cA, 7, .inr (.inr (.inr (.inr (on_rw r_t_cells))))))] + (Int32.toNatClampNeg t_rank)) 1 (on_rowAt [(h_t, .inr (4, [.int t_many, .int t_rank, .int t_sign, .long t_lastPivot, .ref h_t_cells])), (h_t_cells, .inl (cA, 7, .inr (.inr (.inr (.inr (on_rw r_t_cells))))))] [] (on_ix7 g_6)) rfl (on_ixE g_9) dX4_bringUp_49 (fun H locs hP hD hS => ?_)
        obtain ⟨t_cells_10, et_cells_10⟩ : ∃ z, z = on_up2 t_cells (Int32.toNatClampNeg t_rank) (vp_updL (t_cells (Int32.toNatClampNeg t_rank)) (Int32.toNatClampNeg v2) (t_cells (Int32.toNatClampNeg v1) (Int32.toNatClampNeg v2))) := ⟨_, rfl⟩
        have hM := on_letE et_cells_10 hM
        have hP := on_PE (on_rowSet [(h_t, .inr (4, [.int t_many, .int t_rank, .int t_sign, .long t_lastPivot, .ref h_t_cells])), (h_t_cells, .inl (cA, 7, .inr (.inr (.inr (.inr (on_rw r_t_cells))))))] [] (on_ix7 g_6) _) hP
        have hD := on_DE (on_rowSet [(h_t, .inr (4, [.int t_many, .int t_rank, .int t_sign, .long t_lastPivot, .ref h_t_cells])), (h_t_cells, .inl (cA, 7, .inr (.inr (.inr (.inr (on_rw r_t_cells))))))] [] (on_ix7 g_6) _) hD
        rw [← et_cells_10] at hP hD
        have hP : va_P D vwCl [(h_t, .inr (4, [.int t_many, .int t_rank, .int t_sign, .long t_lastPivot, .ref h_t_cells])), (h_t_cells, .inl (cA, 7, .inr (.inr (.inr (.inr (on_rw r_t_cells)))))), on_row cJ r_t_cells t_cells_10 0, on_row cJ r_t_cells t_cells_10 1, on_row cJ r_t_cells t_cells_10 2, on_row cJ r_t_cells t_cells_10 3, on_row cJ r_t_cells t_cells_10 4, on_row cJ r_t_cells t_cells_10 5, on_row cJ r_t_cells t_cells_10 6] H := hP
        have hD : va_D A [(h_t, .inr (4, [.int t_many, .int t_rank, .int t_sign, .long t_lastPivot, .ref h_t_cells])), (h_t_cells, .inl (cA, 7, .inr (.inr (.inr (.inr (on_rw r_t_cells)))))), on_row cJ r_t_cells t_cells_10 0, on_row cJ r_t_cells t_cells_10 1, on_row cJ r_t_cells t_cells_10 2, on_row cJ r_t_cells t_cells_10 3, on_row cJ r_t_cells t_cells_10 4, on_row cJ r_t_cells t_cells_10 5, on_row cJ r_t_cells t_cells_10 6] := hD
        refine lv_aload_n hx hb dX4_bringUp_50 rfl (lv_at hl 1 rfl) ?_
        refine va_get (D := D) (ci := 4) (v := .ref h_t_cells) (C := RX4) (T := TX4) (N := 5) hx hb hts w2 hown hK hP 0 rfl rfl 4 (by decide) w4 (fun _ h9 => h9) rfl dX4_bringUp_51 ?_
        refine lv_iload_n hx hb dX4_bringUp_54 rfl (lv_at hl 2 rfl) ?_
        obtain ⟨g_11, hM⟩ := on_gdE hM
        refine on_aldA hx hb hK hP 1 4 rfl rfl (on_ixE g_11) dX4_bringUp_55 ?_
        rw [on_rwE g_11]
        refine lv_iload_n hx hb dX4_bringUp_56 rfl (lv_at hl 3 rfl) ?_
        refine lv_lload_n hx hb dX4_bringUp_57 rfl (lv_at hl 0 rfl) ?_
        obtain ⟨g_12, hM⟩ := on_gdE hM
        refine va_last hx hb hK hP hD hS (List.length [(h_t, .inr (4, [.int t_many, .int t_rank, .int t_sign, .long t_lastPivot, .ref h_t_cells])), (h_t_cells, .inl (cA, 7, .inr (.inr (.inr (.inr (on_rw r_t_cells))))))] + (Int32.toNatClampNeg v1)) 1 (on_rowAt [(h_t, .inr (4, [.int t_many, .int t_rank, .int t_sign, .long t_lastPivot, .ref h_t_cells])), (h_t_cells, .inl (cA, 7, .inr (.inr (.inr (.inr (on_rw r_t_cells))))))] [] (on_ix7 g_11)) rfl (on_ixE g_12) dX4_bringUp_58 (fun H locs hP hD hS => ?_)
        obtain ⟨t_cells_13, et_cells_13⟩ : ∃ z, z = on_up2 t_cells_10 (Int32.toNatClampNeg v1) (vp_updL (t_cells_10 (Int32.toNatClampNeg v1)) (Int32.toNatClampNeg v2) v3_5) := ⟨_, rfl⟩
        have hM := on_letE et_cells_13 hM
        have hP := on_PE (on_rowSet [(h_t, .inr (4, [.int t_many, .int t_rank, .int t_sign, .long t_lastPivot, .ref h_t_cells])), (h_t_cells, .inl (cA, 7, .inr (.inr (.inr (.inr (on_rw r_t_cells))))))] [] (on_ix7 g_11) _) hP
        have hD := on_DE (on_rowSet [(h_t, .inr (4, [.int t_many, .int t_rank, .int t_sign, .long t_lastPivot, .ref h_t_cells])), (h_t_cells, .inl (cA, 7, .inr (.inr (.inr (.inr (on_rw r_t_cells))))))] [] (on_ix7 g_11) _) hD
        rw [← et_cells_13] at hP hD
        have hP : va_P D vwCl [(h_t, .inr (4, [.int t_many, .int t_rank, .int t_sign, .long t_lastPivot, .ref h_t_cells])), (h_t_cells, .inl (cA, 7, .inr (.inr (.inr (.inr (on_rw r_t_cells)))))), on_row cJ r_t_cells t_cells_13 0, on_row cJ r_t_cells t_cells_13 1, on_row cJ r_t_cells t_cells_13 2, on_row cJ r_t_cells t_cells_13 3, on_row cJ r_t_cells t_cells_13 4, on_row cJ r_t_cells t_cells_13 5, on_row cJ r_t_cells t_cells_13 6] H := hP
        have hD : va_D A [(h_t, .inr (4, [.int t_many, .int t_rank, .int t_sign, .long t_lastPivot, .ref h_t_cells])), (h_t_cells, .inl (cA, 7, .inr (.inr (.inr (.inr (on_rw r_t_cells)))))), on_row cJ r_t_cells t_cells_13 0, on_row cJ r_t_cells t_cells_13 1, on_row cJ r_t_cells t_cells_13 2, on_row cJ r_t_cells t_cells_13 3, on_row cJ r_t_cells t_cells_13 4, on_row cJ r_t_cells t_cells_13 5, on_row cJ r_t_cells t_cells_13 6] := hD
        obtain ⟨v2_14, ev2_14⟩ : ∃ z : Int32, z = v2 + 1 := ⟨_, rfl⟩
        have hM := on_letE ev2_14 hM
        refine lv_iinc (v := v2_14) (lv' := [(2, .int v2_14), (3, .long v3_5), (0, .ref h_t), (1, .int v1)]) hx hb dX4_bringUp_59 hl (k := 3) rfl (by rw [ev2_14]; rfl) (by decide) rfl (fun ls hl => ?_)
        refine lv_goto (tgt := 11) hx hb dX4_bringUp_62 (by decide) ?_
        have hk := on_nxL hM hk
        exact ih v2_14 t_cells_13 _ hk K1 _ _ hP hD hS ls (lv_sub hl [2, 3, 0] rfl)
  refine lv_iload_n hx hb dX4_bringUp_0 rfl (lv_at hl 1 rfl) ?_
  refine lv_aload_n hx hb dX4_bringUp_1 rfl (lv_at hl 0 rfl) ?_
  refine va_get (D := D) (ci := 4) (v := .int t_rank) (C := RX4) (T := TX4) (N := 5) hx hb hts w2 hown hK hP 0 rfl rfl 1 (by decide) w1 (fun _ h9 => h9) rfl dX4_bringUp_2 ?_
  refine lv_icmp_ne (tgt := 9) hx hb dX4_bringUp_5 (by decide) (fun c_1 => ?_) (fun c_1 => ?_)
  · have hM := on_neg c_1 hM
    refine lv_iconst (v := 0) hx hb dX4_bringUp_9 (by decide) ?_
    refine lv_istore_n (lv' := [(2, .int (0 : Int32)), (0, .ref h_t), (1, .int v1)]) hx hb dX4_bringUp_10 rfl hl (by decide) rfl (fun ls hl => ?_)
    obtain ⟨q_15, hq_15, hM⟩ := on_bind hM
    refine lp_11 v1 t_sign on_F (0 : Int32) t_cells q_15 hq_15 (fun H locs hP hD hS ls hl => ?_) H locs hP hD hS ls (lv_sub hl [1, 2, 0] rfl)
    refine lv_aload_n hx hb dX4_bringUp_65 rfl (lv_at hl 0 rfl) ?_
    refine lv_aload_n hx hb dX4_bringUp_66 rfl (lv_at hl 0 rfl) ?_
    refine va_get (D := D) (ci := 4) (v := .int t_sign) (C := RX4) (T := TX4) (N := 5) hx hb hts w2 hown hK hP 0 rfl rfl 2 (by decide) w5 (fun _ h9 => h9) rfl dX4_bringUp_67 ?_
    refine lv_ineg hx hb dX4_bringUp_70 ?_
    refine lv_topi (fun t_sign_16 et_sign_16 => ?_)
    have hM := on_letE et_sign_16 hM
    refine va_put (D := D) (ci := 4) (v := .int t_sign_16) (ty := .int) (C := RX4) (T := TX4) (N := 5) hx hb hts w2 tyX4 tyX4_ok nmX4 hown hK hP hD hS 0 rfl rfl 2 (by decide) w5 (fun _ h9 => h9) rfl (by decide +kernel) rfl rfl (Nat.le_of_ble_eq_true rfl) dX4_bringUp_71 (fun H locs hP hD hS => ?_)
    have hP : va_P D vwCl [(h_t, .inr (4, [.int t_many, .int t_rank, .int t_sign_16, .long t_lastPivot, .ref h_t_cells])), (h_t_cells, .inl (cA, 7, .inr (.inr (.inr (.inr (on_rw r_t_cells)))))), on_row cJ r_t_cells q_15 0, on_row cJ r_t_cells q_15 1, on_row cJ r_t_cells q_15 2, on_row cJ r_t_cells q_15 3, on_row cJ r_t_cells q_15 4, on_row cJ r_t_cells q_15 5, on_row cJ r_t_cells q_15 6] H := hP
    have hD : va_D A [(h_t, .inr (4, [.int t_many, .int t_rank, .int t_sign_16, .long t_lastPivot, .ref h_t_cells])), (h_t_cells, .inl (cA, 7, .inr (.inr (.inr (.inr (on_rw r_t_cells)))))), on_row cJ r_t_cells q_15 0, on_row cJ r_t_cells q_15 1, on_row cJ r_t_cells q_15 2, on_row cJ r_t_cells q_15 3, on_row cJ r_t_cells q_15 4, on_row cJ r_t_cells q_15 5, on_row cJ r_t_cells q_15 6] := hD
    have hM := Option.some.inj hM
    subst hM
    rw [← hQ]
    exact on_vret hx hb hr hlk hP hD hS dX4_bringUp_74
  · have hM := on_pos c_1 hM
    have hM := Option.some.inj hM
    subst hM
    rw [← hQ]
    exact on_vret hx hb hr hlk hP hD hS dX4_bringUp_8
abbrev rm_X4_clearBelow : Room := { frames := 0, cells := 0, slots := 0, locals := 0 }
set_option maxHeartbeats 4000000 in
set_option maxRecDepth 100000 in
theorem k_X4_clearBelow {l : Launch} {D : va_G} {cI cJ cZ cS cA : ClassId} (h_t : Nat) (h_t_cells : Nat) (r_t_cells : Nat → Nat) (t_many : Int32) (t_rank : Int32) (t_sign : Int32) (t_lastPivot : Int64) (t_cells : Nat → Nat → Int64) (v1 : Int32) (out : (Nat → Nat → Int64)) (hM : M_X4_clearBelow v1 t_many t_rank t_lastPivot t_cells = some out) : on_Con l yX4_clearBelow wsX4_clearBelow rm_X4_clearBelow [.ref h_t, .int v1] D (on_T cI cJ cZ cS cA) [(h_t, .inr (4, [.int t_many, .int t_rank, .int t_sign, .long t_lastPivot, .ref h_t_cells])), (h_t_cells, .inl (cA, 7, .inr (.inr (.inr (.inr (on_rw r_t_cells)))))), on_row cJ r_t_cells t_cells 0, on_row cJ r_t_cells t_cells 1, on_row cJ r_t_cells t_cells 2, on_row cJ r_t_cells t_cells 3, on_row cJ r_t_cells t_cells 4, on_row cJ r_t_cells t_cells 5, on_row cJ r_t_cells t_cells 6] none [(h_t, .inr (4, [.int t_many, .int t_rank, .int t_sign, .long t_lastPivot, .ref h_t_cells])), (h_t_cells, .inl (cA, 7, .inr (.inr (.inr (.inr (on_rw r_t_cells)))))), on_row cJ r_t_cells out 0, on_row cJ r_t_cells out 1, on_row cJ r_t_cells out 2, on_row cJ r_t_cells out 3, on_row cJ r_t_cells out 4, on_row cJ r_t_cells out 5, on_row cJ r_t_cells out 6] := by
  unfold M_X4_clearBelow at hM
  refine on_enter (cc := cX4_clearBelow) (nL := 8) (rt := none) (own := RX4) (by decide +kernel) rfl rfl (Nat.le_of_ble_eq_true rfl) ?_
  intro p e s m below meth c A ls hx hb hml hr hlk hts hown hA hK hN H locs hP hD hS hl
  have hl : lv_has ls 8 [(0, .ref h_t), (1, .int v1)] := hl
  generalize hQ : MQ below (on_Q D none [(h_t, .inr (4, [.int t_many, .int t_rank, .int t_sign, .long t_lastPivot, .ref h_t_cells])), (h_t_cells, .inl (cA, 7, .inr (.inr (.inr (.inr (on_rw r_t_cells)))))), on_row cJ r_t_cells out 0, on_row cJ r_t_cells out 1, on_row cJ r_t_cells out 2, on_row cJ r_t_cells out 3, on_row cJ r_t_cells out 4, on_row cJ r_t_cells out 5, on_row cJ r_t_cells out 6] A) _ s 0 0 A = Q
  generalize hAr : List.toArray ([.ref h_t, .int v1] : List Value) = args at hts hQ ⊢
  have w1 := hts (.fieldLink RX4 21 "OddNets$Table" "lastPivot" "J") (by decide +kernel)
  have w2 : ∀ w ∈ wsX40, w ∈ wsX4_clearBelow := by decide +kernel
  have w3 := hts (.fieldLink RX4 27 "OddNets$Table" "cells" "[[J") (by decide +kernel)
  have w4 := hts (.fieldLink RX4 15 "OddNets$Table" "rank" "I") (by decide +kernel)
  have w5 := hts (.fieldLink RX4 9 "OddNets$Table" "many" "I") (by decide +kernel)
  have lp_53 : ∀ (v1 : Int32) (v2 : Int64) (v4 : Int32) (v5 : Int64), ∀ (n : Nat) (v7 : Int32) (t_cells : Nat → Nat → Int64) (x : (Nat → Nat → Int64)), on_loop (fun (s : Int32 × (Nat → Nat → Int64)) => B_X4_clearBelow_53 v2 v4 v5 t_many t_rank t_lastPivot s.1 s.2) n (v7, t_cells) = some x → (∀ (H : Heap) (locs : List Loc), va_P D vwCl [(h_t, .inr (4, [.int t_many, .int t_rank, .int t_sign, .long t_lastPivot, .ref h_t_cells])), (h_t_cells, .inl (cA, 7, .inr (.inr (.inr (.inr (on_rw r_t_cells)))))), on_row cJ r_t_cells x 0, on_row cJ r_t_cells x 1, on_row cJ r_t_cells x 2, on_row cJ r_t_cells x 3, on_row cJ r_t_cells x 4, on_row cJ r_t_cells x 5, on_row cJ r_t_cells x 6] H → va_D A [(h_t, .inr (4, [.int t_many, .int t_rank, .int t_sign, .long t_lastPivot, .ref h_t_cells])), (h_t_cells, .inl (cA, 7, .inr (.inr (.inr (.inr (on_rw r_t_cells)))))), on_row cJ r_t_cells x 0, on_row cJ r_t_cells x 1, on_row cJ r_t_cells x 2, on_row cJ r_t_cells x 3, on_row cJ r_t_cells x 4, on_row cJ r_t_cells x 5, on_row cJ r_t_cells x 6] → va_S A s.heap H locs → ∀ ls : Array Slot, lv_has ls 8 [(0, .ref h_t), (1, .int v1), (2, .long v2), (4, .int v4)] → W p l e rm_X4_clearBelow s m args below meth c H locs 0 0 Q (F0 m 111 ls [])) → ∀ (H : Heap) (locs : List Loc), va_P D vwCl [(h_t, .inr (4, [.int t_many, .int t_rank, .int t_sign, .long t_lastPivot, .ref h_t_cells])), (h_t_cells, .inl (cA, 7, .inr (.inr (.inr (.inr (on_rw r_t_cells)))))), on_row cJ r_t_cells t_cells 0, on_row cJ r_t_cells t_cells 1, on_row cJ r_t_cells t_cells 2, on_row cJ r_t_cells t_cells 3, on_row cJ r_t_cells t_cells 4, on_row cJ r_t_cells t_cells 5, on_row cJ r_t_cells t_cells 6] H → va_D A [(h_t, .inr (4, [.int t_many, .int t_rank, .int t_sign, .long t_lastPivot, .ref h_t_cells])), (h_t_cells, .inl (cA, 7, .inr (.inr (.inr (.inr (on_rw r_t_cells)))))), on_row cJ r_t_cells t_cells 0, on_row cJ r_t_cells t_cells 1, on_row cJ r_t_cells t_cells 2, on_row cJ r_t_cells t_cells 3, on_row cJ r_t_cells t_cells 4, on_row cJ r_t_cells t_cells 5, on_row cJ r_t_cells t_cells 6] → va_S A s.heap H locs → ∀ ls : Array Slot, lv_has ls 8 [(0, .ref h_t), (1, .int v1), (2, .long v2), (4, .int v4), (5, .long v5), (7, .int v7)] → W p l e rm_X4_clearBelow s m args below meth c H locs 0 0 Q (F0 m 53 ls []) := by
    intro v1 v2 v4 v5
    intro n
    induction n with
    | zero =>
      intro v7 t_cells x hL
      exact (on_loop0 hL).elim
    | succ n ih =>
      intro v7 t_cells x hL K1 H locs hP hD hS ls hl
      obtain ⟨y, hM, hk⟩ := on_loopE hL
      have hM : B_X4_clearBelow_53 v2 v4 v5 t_many t_rank t_lastPivot v7 t_cells = some y := hM
      unfold B_X4_clearBelow_53 at hM
      refine lv_iload hx hb dX4_clearBelow_53 (lv_at hl 5 rfl) ?_
      refine lv_aload_n hx hb dX4_clearBelow_55 rfl (lv_at hl 0 rfl) ?_
      refine va_get (D := D) (ci := 4) (v := .int t_many) (C := RX4) (T := TX4) (N := 5) hx hb hts w2 hown hK hP 0 rfl rfl 0 (by decide) w5 (fun _ h9 => h9) rfl dX4_clearBelow_56 ?_
      refine lv_icmp_ge (tgt := 111) hx hb dX4_clearBelow_59 (by decide) (fun c_10 => ?_) (fun c_10 => ?_)
      · have hM := on_pos c_10 hM
        have hk := on_nxR hM hk
        subst hk
        exact K1 _ _ hP hD hS ls (lv_sub hl [0, 1, 2, 3] rfl)
      · have hM := on_neg c_10 hM
        refine lv_aload_n hx hb dX4_clearBelow_62 rfl (lv_at hl 0 rfl) ?_
        refine va_get (D := D) (ci := 4) (v := .ref h_t_cells) (C := RX4) (T := TX4) (N := 5) hx hb hts w2 hown hK hP 0 rfl rfl 4 (by decide) w3 (fun _ h9 => h9) rfl dX4_clearBelow_63 ?_
        refine lv_iload hx hb dX4_clearBelow_66 (lv_at hl 3 rfl) ?_
        obtain ⟨g_11, hM⟩ := on_gdE hM
        refine on_aldA hx hb hK hP 1 4 rfl rfl (on_ixE g_11) dX4_clearBelow_68 ?_
        rw [on_rwE g_11]
        refine lv_iload hx hb dX4_clearBelow_69 (lv_at hl 5 rfl) ?_
        refine lv_lload_n hx hb dX4_clearBelow_71 rfl (lv_at hl 2 rfl) ?_
        refine lv_aload_n hx hb dX4_clearBelow_72 rfl (lv_at hl 0 rfl) ?_
        refine va_get (D := D) (ci := 4) (v := .ref h_t_cells) (C := RX4) (T := TX4) (N := 5) hx hb hts w2 hown hK hP 0 rfl rfl 4 (by decide) w3 (fun _ h9 => h9) rfl dX4_clearBelow_73 ?_
        refine lv_iload hx hb dX4_clearBelow_76 (lv_at hl 3 rfl) ?_
        obtain ⟨g_12, hM⟩ := on_gdE hM
        refine on_aldA hx hb hK hP 1 4 rfl rfl (on_ixE g_12) dX4_clearBelow_78 ?_
        rw [on_rwE g_12]
        refine lv_iload hx hb dX4_clearBelow_79 (lv_at hl 5 rfl) ?_
        obtain ⟨g_13, hM⟩ := on_gdE hM
        refine va_lald hx hb hK hP (List.length [(h_t, .inr (4, [.int t_many, .int t_rank, .int t_sign, .long t_lastPivot, .ref h_t_cells])), (h_t_cells, .inl (cA, 7, .inr (.inr (.inr (.inr (on_rw r_t_cells))))))] + (Int32.toNatClampNeg v4)) 1 (on_rowAt [(h_t, .inr (4, [.int t_many, .int t_rank, .int t_sign, .long t_lastPivot, .ref h_t_cells])), (h_t_cells, .inl (cA, 7, .inr (.inr (.inr (.inr (on_rw r_t_cells))))))] [] (on_ix7 g_12)) rfl (on_ixE g_13) dX4_clearBelow_81 ?_
        refine lv_lmul hx hb dX4_clearBelow_82 ?_
        refine lv_lload hx hb dX4_clearBelow_83 (lv_at hl 4 rfl) ?_
        refine lv_aload_n hx hb dX4_clearBelow_85 rfl (lv_at hl 0 rfl) ?_
        refine va_get (D := D) (ci := 4) (v := .ref h_t_cells) (C := RX4) (T := TX4) (N := 5) hx hb hts w2 hown hK hP 0 rfl rfl 4 (by decide) w3 (fun _ h9 => h9) rfl dX4_clearBelow_86 ?_
        refine lv_aload_n hx hb dX4_clearBelow_89 rfl (lv_at hl 0 rfl) ?_
        refine va_get (D := D) (ci := 4) (v := .int t_rank) (C := RX4) (T := TX4) (N := 5) hx hb hts w2 hown hK hP 0 rfl rfl 1 (by decide) w4 (fun _ h9 => h9) rfl dX4_clearBelow_90 ?_
        obtain ⟨g_14, hM⟩ := on_gdE hM
        refine on_aldA hx hb hK hP 1 4 rfl rfl (on_ixE g_14) dX4_clearBelow_93 ?_
        rw [on_rwE g_14]
        refine lv_iload hx hb dX4_clearBelow_94 (lv_at hl 5 rfl) ?_
        obtain ⟨g_15, hM⟩ := on_gdE hM
        refine va_lald hx hb hK hP (List.length [(h_t, .inr (4, [.int t_many, .int t_rank, .int t_sign, .long t_lastPivot, .ref h_t_cells])), (h_t_cells, .inl (cA, 7, .inr (.inr (.inr (.inr (on_rw r_t_cells))))))] + (Int32.toNatClampNeg t_rank)) 1 (on_rowAt [(h_t, .inr (4, [.int t_many, .int t_rank, .int t_sign, .long t_lastPivot, .ref h_t_cells])), (h_t_cells, .inl (cA, 7, .inr (.inr (.inr (.inr (on_rw r_t_cells))))))] [] (on_ix7 g_14)) rfl (on_ixE g_15) dX4_clearBelow_96 ?_
        refine lv_lmul hx hb dX4_clearBelow_97 ?_
        refine lv_lsub hx hb dX4_clearBelow_98 ?_
        refine lv_aload_n hx hb dX4_clearBelow_99 rfl (lv_at hl 0 rfl) ?_
        refine va_get (D := D) (ci := 4) (v := .long t_lastPivot) (C := RX4) (T := TX4) (N := 5) hx hb hts w2 hown hK hP 0 rfl rfl 3 (by decide) w1 (fun _ h9 => h9) rfl dX4_clearBelow_100 ?_
        obtain ⟨g_16, hM⟩ := on_gdE hM
        refine lv_ldiv hx hb dX4_clearBelow_103 (on_nzLE g_16) ?_
        obtain ⟨g_17, hM⟩ := on_gdE hM
        refine va_last hx hb hK hP hD hS (List.length [(h_t, .inr (4, [.int t_many, .int t_rank, .int t_sign, .long t_lastPivot, .ref h_t_cells])), (h_t_cells, .inl (cA, 7, .inr (.inr (.inr (.inr (on_rw r_t_cells))))))] + (Int32.toNatClampNeg v4)) 1 (on_rowAt [(h_t, .inr (4, [.int t_many, .int t_rank, .int t_sign, .long t_lastPivot, .ref h_t_cells])), (h_t_cells, .inl (cA, 7, .inr (.inr (.inr (.inr (on_rw r_t_cells))))))] [] (on_ix7 g_11)) rfl (on_ixE g_17) dX4_clearBelow_104 (fun H locs hP hD hS => ?_)
        obtain ⟨t_cells_18, et_cells_18⟩ : ∃ z, z = on_up2 t_cells (Int32.toNatClampNeg v4) (vp_updL (t_cells (Int32.toNatClampNeg v4)) (Int32.toNatClampNeg v7) (((v2 * (t_cells (Int32.toNatClampNeg v4) (Int32.toNatClampNeg v7))) - (v5 * (t_cells (Int32.toNatClampNeg t_rank) (Int32.toNatClampNeg v7)))) / t_lastPivot)) := ⟨_, rfl⟩
        have hM := on_letE et_cells_18 hM
        have hP := on_PE (on_rowSet [(h_t, .inr (4, [.int t_many, .int t_rank, .int t_sign, .long t_lastPivot, .ref h_t_cells])), (h_t_cells, .inl (cA, 7, .inr (.inr (.inr (.inr (on_rw r_t_cells))))))] [] (on_ix7 g_11) _) hP
        have hD := on_DE (on_rowSet [(h_t, .inr (4, [.int t_many, .int t_rank, .int t_sign, .long t_lastPivot, .ref h_t_cells])), (h_t_cells, .inl (cA, 7, .inr (.inr (.inr (.inr (on_rw r_t_cells))))))] [] (on_ix7 g_11) _) hD
        rw [← et_cells_18] at hP hD
        have hP : va_P D vwCl [(h_t, .inr (4, [.int t_many, .int t_rank, .int t_sign, .long t_lastPivot, .ref h_t_cells])), (h_t_cells, .inl (cA, 7, .inr (.inr (.inr (.inr (on_rw r_t_cells)))))), on_row cJ r_t_cells t_cells_18 0, on_row cJ r_t_cells t_cells_18 1, on_row cJ r_t_cells t_cells_18 2, on_row cJ r_t_cells t_cells_18 3, on_row cJ r_t_cells t_cells_18 4, on_row cJ r_t_cells t_cells_18 5, on_row cJ r_t_cells t_cells_18 6] H := hP
        have hD : va_D A [(h_t, .inr (4, [.int t_many, .int t_rank, .int t_sign, .long t_lastPivot, .ref h_t_cells])), (h_t_cells, .inl (cA, 7, .inr (.inr (.inr (.inr (on_rw r_t_cells)))))), on_row cJ r_t_cells t_cells_18 0, on_row cJ r_t_cells t_cells_18 1, on_row cJ r_t_cells t_cells_18 2, on_row cJ r_t_cells t_cells_18 3, on_row cJ r_t_cells t_cells_18 4, on_row cJ r_t_cells t_cells_18 5, on_row cJ r_t_cells t_cells_18 6] := hD
        obtain ⟨v7_19, ev7_19⟩ : ∃ z : Int32, z = v7 + 1 := ⟨_, rfl⟩
        have hM := on_letE ev7_19 hM
        refine lv_iinc (v := v7_19) (lv' := [(7, .int v7_19), (0, .ref h_t), (1, .int v1), (2, .long v2), (4, .int v4), (5, .long v5)]) hx hb dX4_clearBelow_105 hl (k := 5) rfl (by rw [ev7_19]; rfl) (by decide) rfl (fun ls hl => ?_)
        refine lv_goto (tgt := 53) hx hb dX4_clearBelow_108 (by decide) ?_
        have hk := on_nxL hM hk
        exact ih v7_19 t_cells_18 _ hk K1 _ _ hP hD hS ls (lv_sub hl [1, 2, 3, 4, 5, 0] rfl)
  have lp_30 : ∀ (v1 : Int32) (v2 : Int64), ∀ (n : Nat) (v4 : Int32) (t_cells : Nat → Nat → Int64) (x : (Nat → Nat → Int64)), on_loop (fun (s : Int32 × (Nat → Nat → Int64)) => B_X4_clearBelow_30 v1 v2 t_many t_rank t_lastPivot s.1 s.2) n (v4, t_cells) = some x → (∀ (H : Heap) (locs : List Loc), va_P D vwCl [(h_t, .inr (4, [.int t_many, .int t_rank, .int t_sign, .long t_lastPivot, .ref h_t_cells])), (h_t_cells, .inl (cA, 7, .inr (.inr (.inr (.inr (on_rw r_t_cells)))))), on_row cJ r_t_cells x 0, on_row cJ r_t_cells x 1, on_row cJ r_t_cells x 2, on_row cJ r_t_cells x 3, on_row cJ r_t_cells x 4, on_row cJ r_t_cells x 5, on_row cJ r_t_cells x 6] H → va_D A [(h_t, .inr (4, [.int t_many, .int t_rank, .int t_sign, .long t_lastPivot, .ref h_t_cells])), (h_t_cells, .inl (cA, 7, .inr (.inr (.inr (.inr (on_rw r_t_cells)))))), on_row cJ r_t_cells x 0, on_row cJ r_t_cells x 1, on_row cJ r_t_cells x 2, on_row cJ r_t_cells x 3, on_row cJ r_t_cells x 4, on_row cJ r_t_cells x 5, on_row cJ r_t_cells x 6] → va_S A s.heap H locs → ∀ ls : Array Slot, lv_has ls 8 [] → W p l e rm_X4_clearBelow s m args below meth c H locs 0 0 Q (F0 m 117 ls [])) → ∀ (H : Heap) (locs : List Loc), va_P D vwCl [(h_t, .inr (4, [.int t_many, .int t_rank, .int t_sign, .long t_lastPivot, .ref h_t_cells])), (h_t_cells, .inl (cA, 7, .inr (.inr (.inr (.inr (on_rw r_t_cells)))))), on_row cJ r_t_cells t_cells 0, on_row cJ r_t_cells t_cells 1, on_row cJ r_t_cells t_cells 2, on_row cJ r_t_cells t_cells 3, on_row cJ r_t_cells t_cells 4, on_row cJ r_t_cells t_cells 5, on_row cJ r_t_cells t_cells 6] H → va_D A [(h_t, .inr (4, [.int t_many, .int t_rank, .int t_sign, .long t_lastPivot, .ref h_t_cells])), (h_t_cells, .inl (cA, 7, .inr (.inr (.inr (.inr (on_rw r_t_cells)))))), on_row cJ r_t_cells t_cells 0, on_row cJ r_t_cells t_cells 1, on_row cJ r_t_cells t_cells 2, on_row cJ r_t_cells t_cells 3, on_row cJ r_t_cells t_cells 4, on_row cJ r_t_cells t_cells 5, on_row cJ r_t_cells t_cells 6] → va_S A s.heap H locs → ∀ ls : Array Slot, lv_has ls 8 [(0, .ref h_t), (1, .int v1), (2, .long v2), (4, .int v4)] → W p l e rm_X4_clearBelow s m args below meth c H locs 0 0 Q (F0 m 30 ls []) := by
    intro v1 v2
    intro n
    induction n with
    | zero =>
      intro v4 t_cells x hL
      exact (on_loop0 hL).elim
    | succ n ih =>
      intro v4 t_cells x hL K1 H locs hP hD hS ls hl
      obtain ⟨y, hM, hk⟩ := on_loopE hL
      have hM : B_X4_clearBelow_30 v1 v2 t_many t_rank t_lastPivot v4 t_cells = some y := hM
      unfold B_X4_clearBelow_30 at hM
      refine lv_iload hx hb dX4_clearBelow_30 (lv_at hl 3 rfl) ?_
      refine lv_aload_n hx hb dX4_clearBelow_32 rfl (lv_at hl 0 rfl) ?_
      refine va_get (D := D) (ci := 4) (v := .int t_many) (C := RX4) (T := TX4) (N := 5) hx hb hts w2 hown hK hP 0 rfl rfl 0 (by decide) w5 (fun _ h9 => h9) rfl dX4_clearBelow_33 ?_
      refine lv_icmp_ge (tgt := 117) hx hb dX4_clearBelow_36 (by decide) (fun c_6 => ?_) (fun c_6 => ?_)
      · have hM := on_pos c_6 hM
        have hk := on_nxR hM hk
        subst hk
        exact K1 _ _ hP hD hS ls (lv_sub hl [] rfl)
      · have hM := on_neg c_6 hM
        refine lv_aload_n hx hb dX4_clearBelow_39 rfl (lv_at hl 0 rfl) ?_
        refine va_get (D := D) (ci := 4) (v := .ref h_t_cells) (C := RX4) (T := TX4) (N := 5) hx hb hts w2 hown hK hP 0 rfl rfl 4 (by decide) w3 (fun _ h9 => h9) rfl dX4_clearBelow_40 ?_
        refine lv_iload hx hb dX4_clearBelow_43 (lv_at hl 3 rfl) ?_
        obtain ⟨g_7, hM⟩ := on_gdE hM
        refine on_aldA hx hb hK hP 1 4 rfl rfl (on_ixE g_7) dX4_clearBelow_45 ?_
        rw [on_rwE g_7]
        refine lv_iload_n hx hb dX4_clearBelow_46 rfl (lv_at hl 1 rfl) ?_
        obtain ⟨g_8, hM⟩ := on_gdE hM
        refine va_lald hx hb hK hP (List.length [(h_t, .inr (4, [.int t_many, .int t_rank, .int t_sign, .long t_lastPivot, .ref h_t_cells])), (h_t_cells, .inl (cA, 7, .inr (.inr (.inr (.inr (on_rw r_t_cells))))))] + (Int32.toNatClampNeg v4)) 1 (on_rowAt [(h_t, .inr (4, [.int t_many, .int t_rank, .int t_sign, .long t_lastPivot, .ref h_t_cells])), (h_t_cells, .inl (cA, 7, .inr (.inr (.inr (.inr (on_rw r_t_cells))))))] [] (on_ix7 g_7)) rfl (on_ixE g_8) dX4_clearBelow_47 ?_
        refine lv_topl (fun v5_9 ev5_9 => ?_)
        have hM := on_letE ev5_9 hM
        refine lv_lstore (lv' := [(5, .long v5_9), (0, .ref h_t), (1, .int v1), (2, .long v2), (4, .int v4)]) hx hb dX4_clearBelow_48 hl (by decide) rfl (fun ls hl => ?_)
        refine lv_iload_n hx hb dX4_clearBelow_50 rfl (lv_at hl 2 rfl) ?_
        refine lv_istore (lv' := [(7, .int v1), (5, .long v5_9), (0, .ref h_t), (1, .int v1), (2, .long v2), (4, .int v4)]) hx hb dX4_clearBelow_51 hl (by decide) rfl (fun ls hl => ?_)
        obtain ⟨q_20, hq_20, hM⟩ := on_bind hM
        refine lp_53 v1 v2 v4 v5_9 on_F v1 t_cells q_20 hq_20 (fun H locs hP hD hS ls hl => ?_) H locs hP hD hS ls (lv_sub hl [2, 3, 4, 5, 1, 0] rfl)
        obtain ⟨v4_21, ev4_21⟩ : ∃ z : Int32, z = v4 + 1 := ⟨_, rfl⟩
        have hM := on_letE ev4_21 hM
        refine lv_iinc (v := v4_21) (lv' := [(4, .int v4_21), (0, .ref h_t), (1, .int v1), (2, .long v2)]) hx hb dX4_clearBelow_111 hl (k := 3) rfl (by rw [ev4_21]; rfl) (by decide) rfl (fun ls hl => ?_)
        refine lv_goto (tgt := 30) hx hb dX4_clearBelow_114 (by decide) ?_
        have hk := on_nxL hM hk
        exact ih v4_21 q_20 _ hk K1 _ _ hP hD hS ls (lv_sub hl [1, 2, 3, 0] rfl)
  refine lv_aload_n hx hb dX4_clearBelow_0 rfl (lv_at hl 0 rfl) ?_
  refine va_get (D := D) (ci := 4) (v := .long t_lastPivot) (C := RX4) (T := TX4) (N := 5) hx hb hts w2 hown hK hP 0 rfl rfl 3 (by decide) w1 (fun _ h9 => h9) rfl dX4_clearBelow_1 ?_
  refine lv_lconst (v := 0) hx hb dX4_clearBelow_4 (by decide) ?_
  refine W.lcmp hx hb dX4_clearBelow_5 ?_
  refine lv_if_ne (tgt := 10) hx hb dX4_clearBelow_6 (by decide) (fun c_1 => ?_) (fun c_1 => ?_)
  · have hM := on_neg c_1 hM
    refine lv_aload_n hx hb dX4_clearBelow_10 rfl (lv_at hl 0 rfl) ?_
    refine va_get (D := D) (ci := 4) (v := .ref h_t_cells) (C := RX4) (T := TX4) (N := 5) hx hb hts w2 hown hK hP 0 rfl rfl 4 (by decide) w3 (fun _ h9 => h9) rfl dX4_clearBelow_11 ?_
    refine lv_aload_n hx hb dX4_clearBelow_14 rfl (lv_at hl 0 rfl) ?_
    refine va_get (D := D) (ci := 4) (v := .int t_rank) (C := RX4) (T := TX4) (N := 5) hx hb hts w2 hown hK hP 0 rfl rfl 1 (by decide) w4 (fun _ h9 => h9) rfl dX4_clearBelow_15 ?_
    obtain ⟨g_2, hM⟩ := on_gdE hM
    refine on_aldA hx hb hK hP 1 4 rfl rfl (on_ixE g_2) dX4_clearBelow_18 ?_
    rw [on_rwE g_2]
    refine lv_iload_n hx hb dX4_clearBelow_19 rfl (lv_at hl 1 rfl) ?_
    obtain ⟨g_3, hM⟩ := on_gdE hM
    refine va_lald hx hb hK hP (List.length [(h_t, .inr (4, [.int t_many, .int t_rank, .int t_sign, .long t_lastPivot, .ref h_t_cells])), (h_t_cells, .inl (cA, 7, .inr (.inr (.inr (.inr (on_rw r_t_cells))))))] + (Int32.toNatClampNeg t_rank)) 1 (on_rowAt [(h_t, .inr (4, [.int t_many, .int t_rank, .int t_sign, .long t_lastPivot, .ref h_t_cells])), (h_t_cells, .inl (cA, 7, .inr (.inr (.inr (.inr (on_rw r_t_cells))))))] [] (on_ix7 g_2)) rfl (on_ixE g_3) dX4_clearBelow_20 ?_
    refine lv_topl (fun v2_4 ev2_4 => ?_)
    have hM := on_letE ev2_4 hM
    refine lv_lstore_n (lv' := [(2, .long v2_4), (0, .ref h_t), (1, .int v1)]) hx hb dX4_clearBelow_21 rfl hl (by decide) rfl (fun ls hl => ?_)
    refine lv_aload_n hx hb dX4_clearBelow_22 rfl (lv_at hl 1 rfl) ?_
    refine va_get (D := D) (ci := 4) (v := .int t_rank) (C := RX4) (T := TX4) (N := 5) hx hb hts w2 hown hK hP 0 rfl rfl 1 (by decide) w4 (fun _ h9 => h9) rfl dX4_clearBelow_23 ?_
    refine lv_iconst (v := 1) hx hb dX4_clearBelow_26 (by decide) ?_
    refine lv_iadd hx hb dX4_clearBelow_27 ?_
    refine lv_topi (fun v4_5 ev4_5 => ?_)
    have hM := on_letE ev4_5 hM
    refine lv_istore (lv' := [(4, .int v4_5), (2, .long v2_4), (0, .ref h_t), (1, .int v1)]) hx hb dX4_clearBelow_28 hl (by decide) rfl (fun ls hl => ?_)
    obtain ⟨q_22, hq_22, hM⟩ := on_bind hM
    refine lp_30 v1 v2_4 on_F v4_5 t_cells q_22 hq_22 (fun H locs hP hD hS ls hl => ?_) H locs hP hD hS ls (lv_sub hl [2, 3, 1, 0] rfl)
    have hM := Option.some.inj hM
    subst hM
    rw [← hQ]
    exact on_vret hx hb hr hlk hP hD hS dX4_clearBelow_117
  · have hM := on_pos c_1 hM
    have hM := Option.some.inj hM
    subst hM
    rw [← hQ]
    exact on_vret hx hb hr hlk hP hD hS dX4_clearBelow_9
abbrev rm_X4_eliminate : Room := { frames := 1, cells := 0, slots := 0, locals := 27 }
set_option maxHeartbeats 4000000 in
set_option maxRecDepth 100000 in
theorem k_X4_eliminate {l : Launch} {D : va_G} {cI cJ cZ cS cA : ClassId} (h_t : Nat) (h_t_cells : Nat) (r_t_cells : Nat → Nat) (t_many : Int32) (t_rank : Int32) (t_sign : Int32) (t_lastPivot : Int64) (t_cells : Nat → Nat → Int64)  (out : Int32 × Int32 × Int64 × (Nat → Nat → Int64)) (hM : M_X4_eliminate t_many t_cells = some out) : on_Con l yX4_eliminate wsX4_eliminate rm_X4_eliminate [.ref h_t] D (on_T cI cJ cZ cS cA) [(h_t, .inr (4, [.int t_many, .int t_rank, .int t_sign, .long t_lastPivot, .ref h_t_cells])), (h_t_cells, .inl (cA, 7, .inr (.inr (.inr (.inr (on_rw r_t_cells)))))), on_row cJ r_t_cells t_cells 0, on_row cJ r_t_cells t_cells 1, on_row cJ r_t_cells t_cells 2, on_row cJ r_t_cells t_cells 3, on_row cJ r_t_cells t_cells 4, on_row cJ r_t_cells t_cells 5, on_row cJ r_t_cells t_cells 6] none [(h_t, .inr (4, [.int t_many, .int out.1, .int out.2.1, .long out.2.2.1, .ref h_t_cells])), (h_t_cells, .inl (cA, 7, .inr (.inr (.inr (.inr (on_rw r_t_cells)))))), on_row cJ r_t_cells out.2.2.2 0, on_row cJ r_t_cells out.2.2.2 1, on_row cJ r_t_cells out.2.2.2 2, on_row cJ r_t_cells out.2.2.2 3, on_row cJ r_t_cells out.2.2.2 4, on_row cJ r_t_cells out.2.2.2 5, on_row cJ r_t_cells out.2.2.2 6] := by
  unfold M_X4_eliminate at hM
  refine on_enter (cc := cX4_eliminate) (nL := 3) (rt := none) (own := RX4) (by decide +kernel) rfl rfl (Nat.le_of_ble_eq_true rfl) ?_
  intro p e s m below meth c A ls hx hb hml hr hlk hts hown hA hK hN H locs hP hD hS hl
  have hl : lv_has ls 3 [(0, .ref h_t)] := hl
  generalize hQ : MQ below (on_Q D none [(h_t, .inr (4, [.int t_many, .int out.1, .int out.2.1, .long out.2.2.1, .ref h_t_cells])), (h_t_cells, .inl (cA, 7, .inr (.inr (.inr (.inr (on_rw r_t_cells)))))), on_row cJ r_t_cells out.2.2.2 0, on_row cJ r_t_cells out.2.2.2 1, on_row cJ r_t_cells out.2.2.2 2, on_row cJ r_t_cells out.2.2.2 3, on_row cJ r_t_cells out.2.2.2 4, on_row cJ r_t_cells out.2.2.2 5, on_row cJ r_t_cells out.2.2.2 6] A) _ s 0 0 A = Q
  generalize hAr : List.toArray ([.ref h_t] : List Value) = args at hts hQ ⊢
  have w1 := hts (.fieldLink RX4 15 "OddNets$Table" "rank" "I") (by decide +kernel)
  have w2 : ∀ w ∈ wsX40, w ∈ wsX4_eliminate := by decide +kernel
  have w3 := hts (.fieldLink RX4 18 "OddNets$Table" "sign" "I") (by decide +kernel)
  have w4 := hts (.fieldLink RX4 21 "OddNets$Table" "lastPivot" "J") (by decide +kernel)
  have w5 := hts (.fieldLink RX4 9 "OddNets$Table" "many" "I") (by decide +kernel)
  have w6 := hts (.fieldLink RX4 27 "OddNets$Table" "cells" "[[J") (by decide +kernel)
  have lp_17 : ∀ (n : Nat) (v1 : Int32) (t_rank : Int32) (t_sign : Int32) (t_lastPivot : Int64) (t_cells : Nat → Nat → Int64) (x : Int32 × Int32 × Int64 × (Nat → Nat → Int64)), on_loop (fun (s : Int32 × Int32 × Int32 × Int64 × (Nat → Nat → Int64)) => B_X4_eliminate_17 t_many s.1 s.2.1 s.2.2.1 s.2.2.2.1 s.2.2.2.2) n (v1, t_rank, t_sign, t_lastPivot, t_cells) = some x → (∀ (H : Heap) (locs : List Loc), va_P D vwCl [(h_t, .inr (4, [.int t_many, .int x.1, .int x.2.1, .long x.2.2.1, .ref h_t_cells])), (h_t_cells, .inl (cA, 7, .inr (.inr (.inr (.inr (on_rw r_t_cells)))))), on_row cJ r_t_cells x.2.2.2 0, on_row cJ r_t_cells x.2.2.2 1, on_row cJ r_t_cells x.2.2.2 2, on_row cJ r_t_cells x.2.2.2 3, on_row cJ r_t_cells x.2.2.2 4, on_row cJ r_t_cells x.2.2.2 5, on_row cJ r_t_cells x.2.2.2 6] H → va_D A [(h_t, .inr (4, [.int t_many, .int x.1, .int x.2.1, .long x.2.2.1, .ref h_t_cells])), (h_t_cells, .inl (cA, 7, .inr (.inr (.inr (.inr (on_rw r_t_cells)))))), on_row cJ r_t_cells x.2.2.2 0, on_row cJ r_t_cells x.2.2.2 1, on_row cJ r_t_cells x.2.2.2 2, on_row cJ r_t_cells x.2.2.2 3, on_row cJ r_t_cells x.2.2.2 4, on_row cJ r_t_cells x.2.2.2 5, on_row cJ r_t_cells x.2.2.2 6] → va_S A s.heap H locs → ∀ ls : Array Slot, lv_has ls 3 [] → W p l e rm_X4_eliminate s m args below meth c H locs 0 0 Q (F0 m 80 ls [])) → ∀ (H : Heap) (locs : List Loc), va_P D vwCl [(h_t, .inr (4, [.int t_many, .int t_rank, .int t_sign, .long t_lastPivot, .ref h_t_cells])), (h_t_cells, .inl (cA, 7, .inr (.inr (.inr (.inr (on_rw r_t_cells)))))), on_row cJ r_t_cells t_cells 0, on_row cJ r_t_cells t_cells 1, on_row cJ r_t_cells t_cells 2, on_row cJ r_t_cells t_cells 3, on_row cJ r_t_cells t_cells 4, on_row cJ r_t_cells t_cells 5, on_row cJ r_t_cells t_cells 6] H → va_D A [(h_t, .inr (4, [.int t_many, .int t_rank, .int t_sign, .long t_lastPivot, .ref h_t_cells])), (h_t_cells, .inl (cA, 7, .inr (.inr (.inr (.inr (on_rw r_t_cells)))))), on_row cJ r_t_cells t_cells 0, on_row cJ r_t_cells t_cells 1, on_row cJ r_t_cells t_cells 2, on_row cJ r_t_cells t_cells 3, on_row cJ r_t_cells t_cells 4, on_row cJ r_t_cells t_cells 5, on_row cJ r_t_cells t_cells 6] → va_S A s.heap H locs → ∀ ls : Array Slot, lv_has ls 3 [(0, .ref h_t), (1, .int v1)] → W p l e rm_X4_eliminate s m args below meth c H locs 0 0 Q (F0 m 17 ls []) := by
    intro n
    induction n with
    | zero =>
      intro v1 t_rank t_sign t_lastPivot t_cells x hL
      exact (on_loop0 hL).elim
    | succ n ih =>
      intro v1 t_rank t_sign t_lastPivot t_cells x hL K1 H locs hP hD hS ls hl
      obtain ⟨y, hM, hk⟩ := on_loopE hL
      have hM : B_X4_eliminate_17 t_many v1 t_rank t_sign t_lastPivot t_cells = some y := hM
      unfold B_X4_eliminate_17 at hM
      refine lv_iload_n hx hb dX4_eliminate_17 rfl (lv_at hl 1 rfl) ?_
      refine lv_aload_n hx hb dX4_eliminate_18 rfl (lv_at hl 0 rfl) ?_
      refine va_get (D := D) (ci := 4) (v := .int t_many) (C := RX4) (T := TX4) (N := 5) hx hb hts w2 hown hK hP 0 rfl rfl 0 (by decide) w5 (fun _ h9 => h9) rfl dX4_eliminate_19 ?_
      refine lv_icmp_ge (tgt := 80) hx hb dX4_eliminate_22 (by decide) (fun c_1 => ?_) (fun c_1 => ?_)
      · have hM := on_pos c_1 hM
        have hk := on_nxR hM hk
        subst hk
        exact K1 _ _ hP hD hS ls (lv_sub hl [] rfl)
      · have hM := on_neg c_1 hM
        refine lv_aload_n hx hb dX4_eliminate_25 rfl (lv_at hl 0 rfl) ?_
        refine lv_iload_n hx hb dX4_eliminate_26 rfl (lv_at hl 1 rfl) ?_
        obtain ⟨q_2, hq_2, hM⟩ := on_bind hM
        refine on_callV (rest := []) (As := [.int v1]) (st1 := [.int q_2]) (C := RX4) (ci := 4) (q0 := 0) (wc := [(h_t, .inr (4, [.int t_many, .int t_rank, .int t_sign, .long t_lastPivot, .ref h_t_cells])), (h_t_cells, .inl (cA, 7, .inr (.inr (.inr (.inr (on_rw r_t_cells)))))), on_row cJ r_t_cells t_cells 0, on_row cJ r_t_cells t_cells 1, on_row cJ r_t_cells t_cells 2, on_row cJ r_t_cells t_cells 3, on_row cJ r_t_cells t_cells 4, on_row cJ r_t_cells t_cells 5, on_row cJ r_t_cells t_cells 6]) (wr := []) (wc' := [(h_t, .inr (4, [.int t_many, .int t_rank, .int t_sign, .long t_lastPivot, .ref h_t_cells])), (h_t_cells, .inl (cA, 7, .inr (.inr (.inr (.inr (on_rw r_t_cells)))))), on_row cJ r_t_cells t_cells 0, on_row cJ r_t_cells t_cells 1, on_row cJ r_t_cells t_cells 2, on_row cJ r_t_cells t_cells 3, on_row cJ r_t_cells t_cells 4, on_row cJ r_t_cells t_cells 5, on_row cJ r_t_cells t_cells 6]) (wf := [(h_t, .inr (4, [.int t_many, .int t_rank, .int t_sign, .long t_lastPivot, .ref h_t_cells])), (h_t_cells, .inl (cA, 7, .inr (.inr (.inr (.inr (on_rw r_t_cells)))))), on_row cJ r_t_cells t_cells 0, on_row cJ r_t_cells t_cells 1, on_row cJ r_t_cells t_cells 2, on_row cJ r_t_cells t_cells 3, on_row cJ r_t_cells t_cells 4, on_row cJ r_t_cells t_cells 5, on_row cJ r_t_cells t_cells 6]) (rt := (some (.int q_2))) ⟨hx, hb, hml, hown, hts⟩ (k_X4_pivotRow h_t h_t_cells r_t_cells t_many t_rank t_sign t_lastPivot t_cells v1 q_2 hq_2) (cwV 1 hts gX4_eliminate_X4_pivotRow rfl rfl rfl ⟨rfl, hdX4_pivotRow⟩ ⟨(Nat.le_of_ble_eq_true rfl), (Nat.le_of_ble_eq_true rfl)⟩) hK hN hP hD hS hA [0, 1, 2, 3, 4, 5, 6, 7, 8] [] [0, 1, 2, 3, 4, 5, 6, 7, 8] rfl rfl rfl rfl (by decide) rfl rfl rfl rfl rfl rfl hl.1 rfl (Nat.le_of_ble_eq_true rfl) rfl dX4_eliminate_27 ⟨Nat.zero_le _, Nat.zero_le _⟩ (fun H locs hP hD hS => ?_)
        refine lv_istore_n (lv' := [(2, .int q_2), (0, .ref h_t), (1, .int v1)]) hx hb dX4_eliminate_30 rfl hl (by decide) rfl (fun ls hl => ?_)
        refine lv_iload_n hx hb dX4_eliminate_31 rfl (lv_at hl 0 rfl) ?_
        refine lv_aload_n hx hb dX4_eliminate_32 rfl (lv_at hl 1 rfl) ?_
        refine va_get (D := D) (ci := 4) (v := .int t_many) (C := RX4) (T := TX4) (N := 5) hx hb hts w2 hown hK hP 0 rfl rfl 0 (by decide) w5 (fun _ h9 => h9) rfl dX4_eliminate_33 ?_
        refine lv_icmp_ge (tgt := 74) hx hb dX4_eliminate_36 (by decide) (fun c_3 => ?_) (fun c_3 => ?_)
        · have hM := on_pos c_3 hM
          obtain ⟨v1_4, ev1_4⟩ : ∃ z : Int32, z = v1 + 1 := ⟨_, rfl⟩
          have hM := on_letE ev1_4 hM
          refine lv_iinc (v := v1_4) (lv' := [(1, .int v1_4), (2, .int q_2), (0, .ref h_t)]) hx hb dX4_eliminate_74 hl (k := 2) rfl (by rw [ev1_4]; rfl) (by decide) rfl (fun ls hl => ?_)
          refine lv_goto (tgt := 17) hx hb dX4_eliminate_77 (by decide) ?_
          have hk := on_nxL hM hk
          exact ih v1_4 t_rank t_sign t_lastPivot t_cells _ hk K1 _ _ hP hD hS ls (lv_sub hl [2, 0] rfl)
        · have hM := on_neg c_3 hM
          refine lv_aload_n hx hb dX4_eliminate_39 rfl (lv_at hl 1 rfl) ?_
          refine lv_iload_n hx hb dX4_eliminate_40 rfl (lv_at hl 0 rfl) ?_
          obtain ⟨q_5, hq_5, hM⟩ := on_bind hM
          refine on_callV (rest := []) (As := [.int q_2]) (st1 := []) (C := RX4) (ci := 4) (q0 := 0) (wc := [(h_t, .inr (4, [.int t_many, .int t_rank, .int t_sign, .long t_lastPivot, .ref h_t_cells])), (h_t_cells, .inl (cA, 7, .inr (.inr (.inr (.inr (on_rw r_t_cells)))))), on_row cJ r_t_cells t_cells 0, on_row cJ r_t_cells t_cells 1, on_row cJ r_t_cells t_cells 2, on_row cJ r_t_cells t_cells 3, on_row cJ r_t_cells t_cells 4, on_row cJ r_t_cells t_cells 5, on_row cJ r_t_cells t_cells 6]) (wr := []) (wc' := [(h_t, .inr (4, [.int t_many, .int t_rank, .int q_5.1, .long t_lastPivot, .ref h_t_cells])), (h_t_cells, .inl (cA, 7, .inr (.inr (.inr (.inr (on_rw r_t_cells)))))), on_row cJ r_t_cells q_5.2 0, on_row cJ r_t_cells q_5.2 1, on_row cJ r_t_cells q_5.2 2, on_row cJ r_t_cells q_5.2 3, on_row cJ r_t_cells q_5.2 4, on_row cJ r_t_cells q_5.2 5, on_row cJ r_t_cells q_5.2 6]) (wf := [(h_t, .inr (4, [.int t_many, .int t_rank, .int q_5.1, .long t_lastPivot, .ref h_t_cells])), (h_t_cells, .inl (cA, 7, .inr (.inr (.inr (.inr (on_rw r_t_cells)))))), on_row cJ r_t_cells q_5.2 0, on_row cJ r_t_cells q_5.2 1, on_row cJ r_t_cells q_5.2 2, on_row cJ r_t_cells q_5.2 3, on_row cJ r_t_cells q_5.2 4, on_row cJ r_t_cells q_5.2 5, on_row cJ r_t_cells q_5.2 6]) (rt := none) ⟨hx, hb, hml, hown, hts⟩ (k_X4_bringUp h_t h_t_cells r_t_cells t_many t_rank t_sign t_lastPivot t_cells q_2 q_5 hq_5) (cwV 1 hts gX4_eliminate_X4_bringUp rfl rfl rfl ⟨rfl, hdX4_bringUp⟩ ⟨(Nat.le_of_ble_eq_true rfl), (Nat.le_of_ble_eq_true rfl)⟩) hK hN hP hD hS hA [0, 1, 2, 3, 4, 5, 6, 7, 8] [] [0, 1, 2, 3, 4, 5, 6, 7, 8] rfl rfl rfl rfl (by decide) rfl rfl rfl rfl rfl rfl hl.1 rfl (Nat.le_of_ble_eq_true rfl) rfl dX4_eliminate_41 ⟨Nat.zero_le _, Nat.zero_le _⟩ (fun H locs hP hD hS => ?_)
          refine lv_aload_n hx hb dX4_eliminate_44 rfl (lv_at hl 1 rfl) ?_
          refine lv_iload_n hx hb dX4_eliminate_45 rfl (lv_at hl 2 rfl) ?_
          obtain ⟨q_6, hq_6, hM⟩ := on_bind hM
          refine on_callV (rest := []) (As := [.int v1]) (st1 := []) (C := RX4) (ci := 4) (q0 := 0) (wc := [(h_t, .inr (4, [.int t_many, .int t_rank, .int q_5.1, .long t_lastPivot, .ref h_t_cells])), (h_t_cells, .inl (cA, 7, .inr (.inr (.inr (.inr (on_rw r_t_cells)))))), on_row cJ r_t_cells q_5.2 0, on_row cJ r_t_cells q_5.2 1, on_row cJ r_t_cells q_5.2 2, on_row cJ r_t_cells q_5.2 3, on_row cJ r_t_cells q_5.2 4, on_row cJ r_t_cells q_5.2 5, on_row cJ r_t_cells q_5.2 6]) (wr := []) (wc' := [(h_t, .inr (4, [.int t_many, .int t_rank, .int q_5.1, .long t_lastPivot, .ref h_t_cells])), (h_t_cells, .inl (cA, 7, .inr (.inr (.inr (.inr (on_rw r_t_cells)))))), on_row cJ r_t_cells q_6 0, on_row cJ r_t_cells q_6 1, on_row cJ r_t_cells q_6 2, on_row cJ r_t_cells q_6 3, on_row cJ r_t_cells q_6 4, on_row cJ r_t_cells q_6 5, on_row cJ r_t_cells q_6 6]) (wf := [(h_t, .inr (4, [.int t_many, .int t_rank, .int q_5.1, .long t_lastPivot, .ref h_t_cells])), (h_t_cells, .inl (cA, 7, .inr (.inr (.inr (.inr (on_rw r_t_cells)))))), on_row cJ r_t_cells q_6 0, on_row cJ r_t_cells q_6 1, on_row cJ r_t_cells q_6 2, on_row cJ r_t_cells q_6 3, on_row cJ r_t_cells q_6 4, on_row cJ r_t_cells q_6 5, on_row cJ r_t_cells q_6 6]) (rt := none) ⟨hx, hb, hml, hown, hts⟩ (k_X4_clearBelow h_t h_t_cells r_t_cells t_many t_rank q_5.1 t_lastPivot q_5.2 v1 q_6 hq_6) (cwV 1 hts gX4_eliminate_X4_clearBelow rfl rfl rfl ⟨rfl, hdX4_clearBelow⟩ ⟨(Nat.le_of_ble_eq_true rfl), (Nat.le_of_ble_eq_true rfl)⟩) hK hN hP hD hS hA [0, 1, 2, 3, 4, 5, 6, 7, 8] [] [0, 1, 2, 3, 4, 5, 6, 7, 8] rfl rfl rfl rfl (by decide) rfl rfl rfl rfl rfl rfl hl.1 rfl (Nat.le_of_ble_eq_true rfl) rfl dX4_eliminate_46 ⟨Nat.zero_le _, Nat.zero_le _⟩ (fun H locs hP hD hS => ?_)
          refine lv_aload_n hx hb dX4_eliminate_49 rfl (lv_at hl 1 rfl) ?_
          refine lv_aload_n hx hb dX4_eliminate_50 rfl (lv_at hl 1 rfl) ?_
          refine va_get (D := D) (ci := 4) (v := .ref h_t_cells) (C := RX4) (T := TX4) (N := 5) hx hb hts w2 hown hK hP 0 rfl rfl 4 (by decide) w6 (fun _ h9 => h9) rfl dX4_eliminate_51 ?_
          refine lv_aload_n hx hb dX4_eliminate_54 rfl (lv_at hl 1 rfl) ?_
          refine va_get (D := D) (ci := 4) (v := .int t_rank) (C := RX4) (T := TX4) (N := 5) hx hb hts w2 hown hK hP 0 rfl rfl 1 (by decide) w1 (fun _ h9 => h9) rfl dX4_eliminate_55 ?_
          obtain ⟨g_7, hM⟩ := on_gdE hM
          refine on_aldA hx hb hK hP 1 4 rfl rfl (on_ixE g_7) dX4_eliminate_58 ?_
          rw [on_rwE g_7]
          refine lv_iload_n hx hb dX4_eliminate_59 rfl (lv_at hl 2 rfl) ?_
          obtain ⟨g_8, hM⟩ := on_gdE hM
          refine va_lald hx hb hK hP (List.length [(h_t, .inr (4, [.int t_many, .int t_rank, .int q_5.1, .long t_lastPivot, .ref h_t_cells])), (h_t_cells, .inl (cA, 7, .inr (.inr (.inr (.inr (on_rw r_t_cells))))))] + (Int32.toNatClampNeg t_rank)) 1 (on_rowAt [(h_t, .inr (4, [.int t_many, .int t_rank, .int q_5.1, .long t_lastPivot, .ref h_t_cells])), (h_t_cells, .inl (cA, 7, .inr (.inr (.inr (.inr (on_rw r_t_cells))))))] [] (on_ix7 g_7)) rfl (on_ixE g_8) dX4_eliminate_60 ?_
          refine lv_topl (fun t_lastPivot_9 et_lastPivot_9 => ?_)
          have hM := on_letE et_lastPivot_9 hM
          refine va_put (D := D) (ci := 4) (v := .long t_lastPivot_9) (ty := .long) (C := RX4) (T := TX4) (N := 5) hx hb hts w2 tyX4 tyX4_ok nmX4 hown hK hP hD hS 0 rfl rfl 3 (by decide) w4 (fun _ h9 => h9) rfl (by decide +kernel) rfl rfl (Nat.le_of_ble_eq_true rfl) dX4_eliminate_61 (fun H locs hP hD hS => ?_)
          have hP : va_P D vwCl [(h_t, .inr (4, [.int t_many, .int t_rank, .int q_5.1, .long t_lastPivot_9, .ref h_t_cells])), (h_t_cells, .inl (cA, 7, .inr (.inr (.inr (.inr (on_rw r_t_cells)))))), on_row cJ r_t_cells q_6 0, on_row cJ r_t_cells q_6 1, on_row cJ r_t_cells q_6 2, on_row cJ r_t_cells q_6 3, on_row cJ r_t_cells q_6 4, on_row cJ r_t_cells q_6 5, on_row cJ r_t_cells q_6 6] H := hP
          have hD : va_D A [(h_t, .inr (4, [.int t_many, .int t_rank, .int q_5.1, .long t_lastPivot_9, .ref h_t_cells])), (h_t_cells, .inl (cA, 7, .inr (.inr (.inr (.inr (on_rw r_t_cells)))))), on_row cJ r_t_cells q_6 0, on_row cJ r_t_cells q_6 1, on_row cJ r_t_cells q_6 2, on_row cJ r_t_cells q_6 3, on_row cJ r_t_cells q_6 4, on_row cJ r_t_cells q_6 5, on_row cJ r_t_cells q_6 6] := hD
          refine lv_aload_n hx hb dX4_eliminate_64 rfl (lv_at hl 1 rfl) ?_
          refine lv_dup hx hb dX4_eliminate_65 rfl ?_
          refine va_get (D := D) (ci := 4) (v := .int t_rank) (C := RX4) (T := TX4) (N := 5) hx hb hts w2 hown hK hP 0 rfl rfl 1 (by decide) w1 (fun _ h9 => h9) rfl dX4_eliminate_66 ?_
          refine lv_iconst (v := 1) hx hb dX4_eliminate_69 (by decide) ?_
          refine lv_iadd hx hb dX4_eliminate_70 ?_
          refine lv_topi (fun t_rank_10 et_rank_10 => ?_)
          have hM := on_letE et_rank_10 hM
          refine va_put (D := D) (ci := 4) (v := .int t_rank_10) (ty := .int) (C := RX4) (T := TX4) (N := 5) hx hb hts w2 tyX4 tyX4_ok nmX4 hown hK hP hD hS 0 rfl rfl 1 (by decide) w1 (fun _ h9 => h9) rfl (by decide +kernel) rfl rfl (Nat.le_of_ble_eq_true rfl) dX4_eliminate_71 (fun H locs hP hD hS => ?_)
          have hP : va_P D vwCl [(h_t, .inr (4, [.int t_many, .int t_rank_10, .int q_5.1, .long t_lastPivot_9, .ref h_t_cells])), (h_t_cells, .inl (cA, 7, .inr (.inr (.inr (.inr (on_rw r_t_cells)))))), on_row cJ r_t_cells q_6 0, on_row cJ r_t_cells q_6 1, on_row cJ r_t_cells q_6 2, on_row cJ r_t_cells q_6 3, on_row cJ r_t_cells q_6 4, on_row cJ r_t_cells q_6 5, on_row cJ r_t_cells q_6 6] H := hP
          have hD : va_D A [(h_t, .inr (4, [.int t_many, .int t_rank_10, .int q_5.1, .long t_lastPivot_9, .ref h_t_cells])), (h_t_cells, .inl (cA, 7, .inr (.inr (.inr (.inr (on_rw r_t_cells)))))), on_row cJ r_t_cells q_6 0, on_row cJ r_t_cells q_6 1, on_row cJ r_t_cells q_6 2, on_row cJ r_t_cells q_6 3, on_row cJ r_t_cells q_6 4, on_row cJ r_t_cells q_6 5, on_row cJ r_t_cells q_6 6] := hD
          obtain ⟨v1_11, ev1_11⟩ : ∃ z : Int32, z = v1 + 1 := ⟨_, rfl⟩
          have hM := on_letE ev1_11 hM
          refine lv_iinc (v := v1_11) (lv' := [(1, .int v1_11), (2, .int q_2), (0, .ref h_t)]) hx hb dX4_eliminate_74 hl (k := 2) rfl (by rw [ev1_11]; rfl) (by decide) rfl (fun ls hl => ?_)
          refine lv_goto (tgt := 17) hx hb dX4_eliminate_77 (by decide) ?_
          have hk := on_nxL hM hk
          exact ih v1_11 t_rank_10 q_5.1 t_lastPivot_9 q_6 _ hk K1 _ _ hP hD hS ls (lv_sub hl [2, 0] rfl)
  refine lv_aload_n hx hb dX4_eliminate_0 rfl (lv_at hl 0 rfl) ?_
  refine lv_iconst (v := 0) hx hb dX4_eliminate_1 (by decide) ?_
  refine va_put (D := D) (ci := 4) (v := .int (0 : Int32)) (ty := .int) (C := RX4) (T := TX4) (N := 5) hx hb hts w2 tyX4 tyX4_ok nmX4 hown hK hP hD hS 0 rfl rfl 1 (by decide) w1 (fun _ h9 => h9) rfl (by decide +kernel) rfl rfl (Nat.le_of_ble_eq_true rfl) dX4_eliminate_2 (fun H locs hP hD hS => ?_)
  have hP : va_P D vwCl [(h_t, .inr (4, [.int t_many, .int (0 : Int32), .int t_sign, .long t_lastPivot, .ref h_t_cells])), (h_t_cells, .inl (cA, 7, .inr (.inr (.inr (.inr (on_rw r_t_cells)))))), on_row cJ r_t_cells t_cells 0, on_row cJ r_t_cells t_cells 1, on_row cJ r_t_cells t_cells 2, on_row cJ r_t_cells t_cells 3, on_row cJ r_t_cells t_cells 4, on_row cJ r_t_cells t_cells 5, on_row cJ r_t_cells t_cells 6] H := hP
  have hD : va_D A [(h_t, .inr (4, [.int t_many, .int (0 : Int32), .int t_sign, .long t_lastPivot, .ref h_t_cells])), (h_t_cells, .inl (cA, 7, .inr (.inr (.inr (.inr (on_rw r_t_cells)))))), on_row cJ r_t_cells t_cells 0, on_row cJ r_t_cells t_cells 1, on_row cJ r_t_cells t_cells 2, on_row cJ r_t_cells t_cells 3, on_row cJ r_t_cells t_cells 4, on_row cJ r_t_cells t_cells 5, on_row cJ r_t_cells t_cells 6] := hD
  refine lv_aload_n hx hb dX4_eliminate_5 rfl (lv_at hl 0 rfl) ?_
  refine lv_iconst (v := 1) hx hb dX4_eliminate_6 (by decide) ?_
  refine va_put (D := D) (ci := 4) (v := .int (1 : Int32)) (ty := .int) (C := RX4) (T := TX4) (N := 5) hx hb hts w2 tyX4 tyX4_ok nmX4 hown hK hP hD hS 0 rfl rfl 2 (by decide) w3 (fun _ h9 => h9) rfl (by decide +kernel) rfl rfl (Nat.le_of_ble_eq_true rfl) dX4_eliminate_7 (fun H locs hP hD hS => ?_)
  have hP : va_P D vwCl [(h_t, .inr (4, [.int t_many, .int (0 : Int32), .int (1 : Int32), .long t_lastPivot, .ref h_t_cells])), (h_t_cells, .inl (cA, 7, .inr (.inr (.inr (.inr (on_rw r_t_cells)))))), on_row cJ r_t_cells t_cells 0, on_row cJ r_t_cells t_cells 1, on_row cJ r_t_cells t_cells 2, on_row cJ r_t_cells t_cells 3, on_row cJ r_t_cells t_cells 4, on_row cJ r_t_cells t_cells 5, on_row cJ r_t_cells t_cells 6] H := hP
  have hD : va_D A [(h_t, .inr (4, [.int t_many, .int (0 : Int32), .int (1 : Int32), .long t_lastPivot, .ref h_t_cells])), (h_t_cells, .inl (cA, 7, .inr (.inr (.inr (.inr (on_rw r_t_cells)))))), on_row cJ r_t_cells t_cells 0, on_row cJ r_t_cells t_cells 1, on_row cJ r_t_cells t_cells 2, on_row cJ r_t_cells t_cells 3, on_row cJ r_t_cells t_cells 4, on_row cJ r_t_cells t_cells 5, on_row cJ r_t_cells t_cells 6] := hD
  refine lv_aload_n hx hb dX4_eliminate_10 rfl (lv_at hl 0 rfl) ?_
  refine lv_lconst (v := 1) hx hb dX4_eliminate_11 (by decide) ?_
  refine va_put (D := D) (ci := 4) (v := .long (1 : Int64)) (ty := .long) (C := RX4) (T := TX4) (N := 5) hx hb hts w2 tyX4 tyX4_ok nmX4 hown hK hP hD hS 0 rfl rfl 3 (by decide) w4 (fun _ h9 => h9) rfl (by decide +kernel) rfl rfl (Nat.le_of_ble_eq_true rfl) dX4_eliminate_12 (fun H locs hP hD hS => ?_)
  have hP : va_P D vwCl [(h_t, .inr (4, [.int t_many, .int (0 : Int32), .int (1 : Int32), .long (1 : Int64), .ref h_t_cells])), (h_t_cells, .inl (cA, 7, .inr (.inr (.inr (.inr (on_rw r_t_cells)))))), on_row cJ r_t_cells t_cells 0, on_row cJ r_t_cells t_cells 1, on_row cJ r_t_cells t_cells 2, on_row cJ r_t_cells t_cells 3, on_row cJ r_t_cells t_cells 4, on_row cJ r_t_cells t_cells 5, on_row cJ r_t_cells t_cells 6] H := hP
  have hD : va_D A [(h_t, .inr (4, [.int t_many, .int (0 : Int32), .int (1 : Int32), .long (1 : Int64), .ref h_t_cells])), (h_t_cells, .inl (cA, 7, .inr (.inr (.inr (.inr (on_rw r_t_cells)))))), on_row cJ r_t_cells t_cells 0, on_row cJ r_t_cells t_cells 1, on_row cJ r_t_cells t_cells 2, on_row cJ r_t_cells t_cells 3, on_row cJ r_t_cells t_cells 4, on_row cJ r_t_cells t_cells 5, on_row cJ r_t_cells t_cells 6] := hD
  refine lv_iconst (v := 0) hx hb dX4_eliminate_15 (by decide) ?_
  refine lv_istore_n (lv' := [(1, .int (0 : Int32)), (0, .ref h_t)]) hx hb dX4_eliminate_16 rfl hl (by decide) rfl (fun ls hl => ?_)
  obtain ⟨q_12, hq_12, hM⟩ := on_bind hM
  refine lp_17  on_F (0 : Int32) (0 : Int32) (1 : Int32) (1 : Int64) t_cells q_12 hq_12 (fun H locs hP hD hS ls hl => ?_) H locs hP hD hS ls (lv_sub hl [1, 0] rfl)
  have hM := Option.some.inj hM
  subst hM
  rw [← hQ]
  exact on_vret hx hb hr hlk hP hD hS dX4_eliminate_80
abbrev rm_X4_determinant : Room := { frames := 0, cells := 0, slots := 0, locals := 0 }
set_option maxHeartbeats 4000000 in
set_option maxRecDepth 100000 in
theorem k_X4_determinant {l : Launch} {D : va_G} {cI cJ cZ cS cA : ClassId} (h_t : Nat) (h_t_cells : Nat) (t_many : Int32) (t_rank : Int32) (t_sign : Int32) (t_lastPivot : Int64)  (out : Int64) (hM : M_X4_determinant t_many t_rank t_sign t_lastPivot = some out) : on_Con l yX4_determinant wsX4_determinant rm_X4_determinant [.ref h_t] D (on_T cI cJ cZ cS cA) [(h_t, .inr (4, [.int t_many, .int t_rank, .int t_sign, .long t_lastPivot, .ref h_t_cells]))] (some (.long out)) [(h_t, .inr (4, [.int t_many, .int t_rank, .int t_sign, .long t_lastPivot, .ref h_t_cells]))] := by
  unfold M_X4_determinant at hM
  refine on_enter (cc := cX4_determinant) (nL := 1) (rt := (some .long)) (own := RX4) (by decide +kernel) rfl rfl (Nat.le_of_ble_eq_true rfl) ?_
  intro p e s m below meth c A ls hx hb hml hr hlk hts hown hA hK hN H locs hP hD hS hl
  have hl : lv_has ls 1 [(0, .ref h_t)] := hl
  generalize hQ : MQ below (on_Q D (some (.long out)) [(h_t, .inr (4, [.int t_many, .int t_rank, .int t_sign, .long t_lastPivot, .ref h_t_cells]))] A) _ s 0 0 A = Q
  generalize hAr : List.toArray ([.ref h_t] : List Value) = args at hts hQ ⊢
  have w1 := hts (.fieldLink RX4 15 "OddNets$Table" "rank" "I") (by decide +kernel)
  have w2 : ∀ w ∈ wsX40, w ∈ wsX4_determinant := by decide +kernel
  have w3 := hts (.fieldLink RX4 9 "OddNets$Table" "many" "I") (by decide +kernel)
  have w4 := hts (.fieldLink RX4 18 "OddNets$Table" "sign" "I") (by decide +kernel)
  have w5 := hts (.fieldLink RX4 21 "OddNets$Table" "lastPivot" "J") (by decide +kernel)
  refine lv_aload_n hx hb dX4_determinant_0 rfl (lv_at hl 0 rfl) ?_
  refine va_get (D := D) (ci := 4) (v := .int t_rank) (C := RX4) (T := TX4) (N := 5) hx hb hts w2 hown hK hP 0 rfl rfl 1 (by decide) w1 (fun _ h9 => h9) rfl dX4_determinant_1 ?_
  refine lv_aload_n hx hb dX4_determinant_4 rfl (lv_at hl 0 rfl) ?_
  refine va_get (D := D) (ci := 4) (v := .int t_many) (C := RX4) (T := TX4) (N := 5) hx hb hts w2 hown hK hP 0 rfl rfl 0 (by decide) w3 (fun _ h9 => h9) rfl dX4_determinant_5 ?_
  refine lv_icmp_ne (tgt := 24) hx hb dX4_determinant_8 (by decide) (fun c_1 => ?_) (fun c_1 => ?_)
  · have hM := on_neg c_1 hM
    refine lv_lconst (v := 0) hx hb dX4_determinant_24 (by decide) ?_
    have hM := Option.some.inj hM
    subst hM
    rw [← hQ]
    exact on_lret hx hb hr hlk hP hD hS dX4_determinant_25
  · have hM := on_pos c_1 hM
    refine lv_aload_n hx hb dX4_determinant_11 rfl (lv_at hl 0 rfl) ?_
    refine va_get (D := D) (ci := 4) (v := .int t_sign) (C := RX4) (T := TX4) (N := 5) hx hb hts w2 hown hK hP 0 rfl rfl 2 (by decide) w4 (fun _ h9 => h9) rfl dX4_determinant_12 ?_
    refine lv_i2l hx hb dX4_determinant_15 rfl ?_
    refine lv_aload_n hx hb dX4_determinant_16 rfl (lv_at hl 0 rfl) ?_
    refine va_get (D := D) (ci := 4) (v := .long t_lastPivot) (C := RX4) (T := TX4) (N := 5) hx hb hts w2 hown hK hP 0 rfl rfl 3 (by decide) w5 (fun _ h9 => h9) rfl dX4_determinant_17 ?_
    refine lv_lmul hx hb dX4_determinant_20 ?_
    refine lv_goto (tgt := 25) hx hb dX4_determinant_21 (by decide) ?_
    have hM := Option.some.inj hM
    subst hM
    rw [← hQ]
    exact on_lret hx hb hr hlk hP hD hS dX4_determinant_25
abbrev rm_X5_root : Room := { frames := 3, cells := 0, slots := 0, locals := 69 }
set_option maxHeartbeats 4000000 in
set_option maxRecDepth 100000 in
theorem k_X5_root {l : Launch} {D : va_G} {cI cJ cZ cS cA : ClassId} (h_t : Nat) (h_t_now : Nat) (h_t_images : Nat) (h_t_pad : Nat) (h_t_net : Nat) (h_t_second : Nat) (h_t_renumbering : Nat) (h_t_table : Nat) (h_t_marks : Nat) (h_t_now_numbers : Nat) (h_t_net_rows : Nat) (h_t_table_cells : Nat) (r_t_table_cells : Nat → Nat) (t_now_many : Int32) (t_now_numbers : Nat → Int32) (t_net_many : Int32) (t_net_rows : Nat → Int32) (t_table_many : Int32) (t_table_rank : Int32) (t_table_sign : Int32) (t_table_lastPivot : Int64) (t_table_cells : Nat → Nat → Int64) (v1 : Int32) (v2 : Int32) (v3 : Int32) (out : Int64 × Int32 × (Nat → Int32) × Int32 × Int32 × Int32 × Int64 × (Nat → Nat → Int64)) (hM : M_X5_root v1 v2 v3 t_now_many t_now_numbers t_net_many t_net_rows t_table_many t_table_rank t_table_sign t_table_lastPivot t_table_cells = some out) : on_Con l yX5_root wsX5_root rm_X5_root [.ref h_t, .int v1, .int v2, .int v3] D (on_T cI cJ cZ cS cA) [(h_t, .inr (5, [.ref h_t_now, .ref h_t_images, .ref h_t_pad, .ref h_t_net, .ref h_t_second, .ref h_t_renumbering, .ref h_t_table, .ref h_t_marks])), (h_t_now, .inr (3, [.int t_now_many, .ref h_t_now_numbers])), (h_t_now_numbers, .inl (cI, 3, .inl t_now_numbers)), (h_t_net, .inr (0, [.int t_net_many, .ref h_t_net_rows])), (h_t_net_rows, .inl (cI, 7, .inl t_net_rows)), (h_t_table, .inr (4, [.int t_table_many, .int t_table_rank, .int t_table_sign, .long t_table_lastPivot, .ref h_t_table_cells])), (h_t_table_cells, .inl (cA, 7, .inr (.inr (.inr (.inr (on_rw r_t_table_cells)))))), on_row cJ r_t_table_cells t_table_cells 0, on_row cJ r_t_table_cells t_table_cells 1, on_row cJ r_t_table_cells t_table_cells 2, on_row cJ r_t_table_cells t_table_cells 3, on_row cJ r_t_table_cells t_table_cells 4, on_row cJ r_t_table_cells t_table_cells 5, on_row cJ r_t_table_cells t_table_cells 6] (some (.long out.1)) [(h_t, .inr (5, [.ref h_t_now, .ref h_t_images, .ref h_t_pad, .ref h_t_net, .ref h_t_second, .ref h_t_renumbering, .ref h_t_table, .ref h_t_marks])), (h_t_now, .inr (3, [.int t_now_many, .ref h_t_now_numbers])), (h_t_now_numbers, .inl (cI, 3, .inl t_now_numbers)), (h_t_net, .inr (0, [.int out.2.1, .ref h_t_net_rows])), (h_t_net_rows, .inl (cI, 7, .inl out.2.2.1)), (h_t_table, .inr (4, [.int out.2.2.2.1, .int out.2.2.2.2.1, .int out.2.2.2.2.2.1, .long out.2.2.2.2.2.2.1, .ref h_t_table_cells])), (h_t_table_cells, .inl (cA, 7, .inr (.inr (.inr (.inr (on_rw r_t_table_cells)))))), on_row cJ r_t_table_cells out.2.2.2.2.2.2.2 0, on_row cJ r_t_table_cells out.2.2.2.2.2.2.2 1, on_row cJ r_t_table_cells out.2.2.2.2.2.2.2 2, on_row cJ r_t_table_cells out.2.2.2.2.2.2.2 3, on_row cJ r_t_table_cells out.2.2.2.2.2.2.2 4, on_row cJ r_t_table_cells out.2.2.2.2.2.2.2 5, on_row cJ r_t_table_cells out.2.2.2.2.2.2.2 6] := by
  unfold M_X5_root at hM
  refine on_enter (cc := cX5_root) (nL := 4) (rt := (some .long)) (own := RX5) (by decide +kernel) rfl rfl (Nat.le_of_ble_eq_true rfl) ?_
  intro p e s m below meth c A ls hx hb hml hr hlk hts hown hA hK hN H locs hP hD hS hl
  have hl : lv_has ls 4 [(0, .ref h_t), (1, .int v1), (2, .int v2), (3, .int v3)] := hl
  generalize hQ : MQ below (on_Q D (some (.long out.1)) [(h_t, .inr (5, [.ref h_t_now, .ref h_t_images, .ref h_t_pad, .ref h_t_net, .ref h_t_second, .ref h_t_renumbering, .ref h_t_table, .ref h_t_marks])), (h_t_now, .inr (3, [.int t_now_many, .ref h_t_now_numbers])), (h_t_now_numbers, .inl (cI, 3, .inl t_now_numbers)), (h_t_net, .inr (0, [.int out.2.1, .ref h_t_net_rows])), (h_t_net_rows, .inl (cI, 7, .inl out.2.2.1)), (h_t_table, .inr (4, [.int out.2.2.2.1, .int out.2.2.2.2.1, .int out.2.2.2.2.2.1, .long out.2.2.2.2.2.2.1, .ref h_t_table_cells])), (h_t_table_cells, .inl (cA, 7, .inr (.inr (.inr (.inr (on_rw r_t_table_cells)))))), on_row cJ r_t_table_cells out.2.2.2.2.2.2.2 0, on_row cJ r_t_table_cells out.2.2.2.2.2.2.2 1, on_row cJ r_t_table_cells out.2.2.2.2.2.2.2 2, on_row cJ r_t_table_cells out.2.2.2.2.2.2.2 3, on_row cJ r_t_table_cells out.2.2.2.2.2.2.2 4, on_row cJ r_t_table_cells out.2.2.2.2.2.2.2 5, on_row cJ r_t_table_cells out.2.2.2.2.2.2.2 6] A) _ s 0 0 A = Q
  generalize hAr : List.toArray ([.ref h_t, .int v1, .int v2, .int v3] : List Value) = args at hts hQ ⊢
  have w1 := hts (.constantLong RX5 185 (-1000000000002)) (by decide +kernel)
  have w2 := hts (.fieldLink RX5 30 "OddNets" "net" "LOddNets$Net;") (by decide +kernel)
  have w3 : ∀ w ∈ wsX50, w ∈ wsX5_root := by decide +kernel
  have w4 := hts (.fieldLink RX5 47 "OddNets" "table" "LOddNets$Table;") (by decide +kernel)
  have w5 := hts (.initialized RX4) (by decide +kernel)
  have w6 := hts (.instanceMethod yX4_fill) (by decide +kernel)
  have w7 := hts (.selects RX4 yX4_fill yX4_fill) (by decide +kernel)
  have w8 := hts (.instanceMethod yX4_eliminate) (by decide +kernel)
  have w9 := hts (.selects RX4 yX4_eliminate yX4_eliminate) (by decide +kernel)
  have w10 := hts (.fieldLink RX5 10 "OddNets" "now" "LOddNets$Shelf;") (by decide +kernel)
  have w11 : ∀ w ∈ wsX30, w ∈ wsX5_root := by decide +kernel
  have w12 : ∀ w ∈ wsX40, w ∈ wsX5_root := by decide +kernel
  have w13 := hts (.instanceMethod yX4_determinant) (by decide +kernel)
  have w14 := hts (.selects RX4 yX4_determinant yX4_determinant) (by decide +kernel)
  have w15 := hts (.constantLong RX5 183 (-1000000000001)) (by decide +kernel)
  refine lv_iload_n hx hb dX5_root_0 rfl (lv_at hl 1 rfl) ?_
  obtain ⟨q_1, hq_1, hM⟩ := on_bind hM
  refine on_callS0 (rest := []) (As := [.int v1]) (st1 := [.int q_1]) ⟨hx, hb, hml, hown, hts⟩ (k_X5_isSlot v1 q_1 hq_1) (va_cwS 1 hts gX5_root_X5_isSlot rfl rfl rfl hdX5_isSlot ⟨(Nat.le_of_ble_eq_true rfl), (Nat.le_of_ble_eq_true rfl)⟩) hK hN hP hD hS hA rfl hl.1 rfl (Nat.le_of_ble_eq_true rfl) rfl dX5_root_1 ⟨Nat.zero_le _, Nat.zero_le _⟩ (fun H locs hP hS => ?_)
  refine lv_if_ne (tgt := 11) hx hb dX5_root_4 (by decide) (fun c_2 => ?_) (fun c_2 => ?_)
  · have hM := on_neg c_2 hM
    refine lv_iload_n hx hb dX5_root_11 rfl (lv_at hl 2 rfl) ?_
    refine lv_bipush (v := -9) hx hb dX5_root_12 (by decide) ?_
    refine lv_bipush (v := 9) hx hb dX5_root_14 (by decide) ?_
    obtain ⟨q_3, hq_3, hM⟩ := on_bind hM
    refine on_callS0 (rest := []) (As := [.int v2, .int (-9 : Int32), .int (9 : Int32)]) (st1 := [.int q_3]) ⟨hx, hb, hml, hown, hts⟩ (k_X5_within v2 (-9 : Int32) (9 : Int32) q_3 hq_3) (va_cwS 3 hts gX5_root_X5_within rfl rfl rfl hdX5_within ⟨(Nat.le_of_ble_eq_true rfl), (Nat.le_of_ble_eq_true rfl)⟩) hK hN hP hD hS hA rfl hl.1 rfl (Nat.le_of_ble_eq_true rfl) rfl dX5_root_16 ⟨Nat.zero_le _, Nat.zero_le _⟩ (fun H locs hP hS => ?_)
    refine lv_if_eq (tgt := 31) hx hb dX5_root_19 (by decide) (fun c_4 => ?_) (fun c_4 => ?_)
    · have hM := on_pos c_4 hM
      refine lv_ldc2 hx hb hown w1 dX5_root_31 ?_
      have hM := Option.some.inj hM
      subst hM
      rw [← hQ]
      exact on_lret hx hb hr hlk hP hD hS dX5_root_34
    · have hM := on_neg c_4 hM
      refine lv_iload_n hx hb dX5_root_22 rfl (lv_at hl 3 rfl) ?_
      refine lv_iconst (v := 0) hx hb dX5_root_23 (by decide) ?_
      refine lv_iconst (v := 1) hx hb dX5_root_24 (by decide) ?_
      obtain ⟨q_5, hq_5, hM⟩ := on_bind hM
      refine on_callS0 (rest := []) (As := [.int v3, .int (0 : Int32), .int (1 : Int32)]) (st1 := [.int q_5]) ⟨hx, hb, hml, hown, hts⟩ (k_X5_within v3 (0 : Int32) (1 : Int32) q_5 hq_5) (va_cwS 3 hts gX5_root_X5_within rfl rfl rfl hdX5_within ⟨(Nat.le_of_ble_eq_true rfl), (Nat.le_of_ble_eq_true rfl)⟩) hK hN hP hD hS hA rfl hl.1 rfl (Nat.le_of_ble_eq_true rfl) rfl dX5_root_25 ⟨Nat.zero_le _, Nat.zero_le _⟩ (fun H locs hP hS => ?_)
      refine lv_if_ne (tgt := 35) hx hb dX5_root_28 (by decide) (fun c_6 => ?_) (fun c_6 => ?_)
      · have hM := on_neg c_6 hM
        refine lv_aload_n hx hb dX5_root_35 rfl (lv_at hl 0 rfl) ?_
        refine lv_aload_n hx hb dX5_root_36 rfl (lv_at hl 0 rfl) ?_
        refine va_get (D := D) (ci := 5) (v := .ref h_t_net) (C := RX5) (T := TX5) (N := 8) hx hb hts w3 hown hK hP 0 rfl rfl 3 (by decide) w2 (fun _ h9 => h9) rfl dX5_root_37 ?_
        refine lv_iload_n hx hb dX5_root_40 rfl (lv_at hl 1 rfl) ?_
        obtain ⟨q_7, hq_7, hM⟩ := on_bind hM
        refine on_callV (rest := []) (As := [.ref h_t_net, .int v1]) (st1 := []) (C := RX5) (ci := 5) (q0 := 0) (wc := [(h_t, .inr (5, [.ref h_t_now, .ref h_t_images, .ref h_t_pad, .ref h_t_net, .ref h_t_second, .ref h_t_renumbering, .ref h_t_table, .ref h_t_marks])), (h_t_now, .inr (3, [.int t_now_many, .ref h_t_now_numbers])), (h_t_now_numbers, .inl (cI, 3, .inl t_now_numbers)), (h_t_net, .inr (0, [.int t_net_many, .ref h_t_net_rows])), (h_t_net_rows, .inl (cI, 7, .inl t_net_rows))]) (wr := [(h_t_table, .inr (4, [.int t_table_many, .int t_table_rank, .int t_table_sign, .long t_table_lastPivot, .ref h_t_table_cells])), (h_t_table_cells, .inl (cA, 7, .inr (.inr (.inr (.inr (on_rw r_t_table_cells)))))), on_row cJ r_t_table_cells t_table_cells 0, on_row cJ r_t_table_cells t_table_cells 1, on_row cJ r_t_table_cells t_table_cells 2, on_row cJ r_t_table_cells t_table_cells 3, on_row cJ r_t_table_cells t_table_cells 4, on_row cJ r_t_table_cells t_table_cells 5, on_row cJ r_t_table_cells t_table_cells 6]) (wc' := [(h_t, .inr (5, [.ref h_t_now, .ref h_t_images, .ref h_t_pad, .ref h_t_net, .ref h_t_second, .ref h_t_renumbering, .ref h_t_table, .ref h_t_marks])), (h_t_now, .inr (3, [.int t_now_many, .ref h_t_now_numbers])), (h_t_now_numbers, .inl (cI, 3, .inl t_now_numbers)), (h_t_net, .inr (0, [.int q_7.1, .ref h_t_net_rows])), (h_t_net_rows, .inl (cI, 7, .inl q_7.2))]) (wf := [(h_t, .inr (5, [.ref h_t_now, .ref h_t_images, .ref h_t_pad, .ref h_t_net, .ref h_t_second, .ref h_t_renumbering, .ref h_t_table, .ref h_t_marks])), (h_t_now, .inr (3, [.int t_now_many, .ref h_t_now_numbers])), (h_t_now_numbers, .inl (cI, 3, .inl t_now_numbers)), (h_t_net, .inr (0, [.int q_7.1, .ref h_t_net_rows])), (h_t_net_rows, .inl (cI, 7, .inl q_7.2)), (h_t_table, .inr (4, [.int t_table_many, .int t_table_rank, .int t_table_sign, .long t_table_lastPivot, .ref h_t_table_cells])), (h_t_table_cells, .inl (cA, 7, .inr (.inr (.inr (.inr (on_rw r_t_table_cells)))))), on_row cJ r_t_table_cells t_table_cells 0, on_row cJ r_t_table_cells t_table_cells 1, on_row cJ r_t_table_cells t_table_cells 2, on_row cJ r_t_table_cells t_table_cells 3, on_row cJ r_t_table_cells t_table_cells 4, on_row cJ r_t_table_cells t_table_cells 5, on_row cJ r_t_table_cells t_table_cells 6]) (rt := none) ⟨hx, hb, hml, hown, hts⟩ (k_X5_load h_t h_t_now h_t_images h_t_pad h_t_net h_t_second h_t_renumbering h_t_table h_t_marks h_t_now_numbers h_t_net h_t_net_rows t_now_many t_now_numbers t_net_many t_net_rows v1 q_7 hq_7) (cwV 2 hts gX5_root_X5_load rfl rfl rfl ⟨rfl, hdX5_load⟩ ⟨(Nat.le_of_ble_eq_true rfl), (Nat.le_of_ble_eq_true rfl)⟩) hK hN hP hD hS hA [0, 1, 2, 3, 4] [5, 6, 7, 8, 9, 10, 11, 12, 13] [9, 10, 11, 12, 13, 0, 1, 2, 3, 4, 5, 6, 7, 8] rfl rfl rfl rfl (by decide) rfl rfl rfl rfl rfl rfl hl.1 rfl (Nat.le_of_ble_eq_true rfl) rfl dX5_root_41 ⟨Nat.zero_le _, Nat.zero_le _⟩ (fun H locs hP hD hS => ?_)
        refine lv_aload_n hx hb dX5_root_44 rfl (lv_at hl 0 rfl) ?_
        refine va_get (D := D) (ci := 5) (v := .ref h_t_table) (C := RX5) (T := TX5) (N := 8) hx hb hts w3 hown hK hP 0 rfl rfl 6 (by decide) w4 (fun _ h9 => h9) rfl dX5_root_45 ?_
        refine lv_aload_n hx hb dX5_root_48 rfl (lv_at hl 0 rfl) ?_
        refine va_get (D := D) (ci := 5) (v := .ref h_t_net) (C := RX5) (T := TX5) (N := 8) hx hb hts w3 hown hK hP 0 rfl rfl 3 (by decide) w2 (fun _ h9 => h9) rfl dX5_root_49 ?_
        refine lv_iload_n hx hb dX5_root_52 rfl (lv_at hl 2 rfl) ?_
        obtain ⟨q_8, hq_8, hM⟩ := on_bind hM
        refine on_callVN (rest := []) (As := [.ref h_t_net, .int v2]) (st1 := []) (C := RX4) (ci := 4) (q0 := 5) (wc := [(h_t_table, .inr (4, [.int t_table_many, .int t_table_rank, .int t_table_sign, .long t_table_lastPivot, .ref h_t_table_cells])), (h_t_table_cells, .inl (cA, 7, .inr (.inr (.inr (.inr (on_rw r_t_table_cells)))))), on_row cJ r_t_table_cells t_table_cells 0, on_row cJ r_t_table_cells t_table_cells 1, on_row cJ r_t_table_cells t_table_cells 2, on_row cJ r_t_table_cells t_table_cells 3, on_row cJ r_t_table_cells t_table_cells 4, on_row cJ r_t_table_cells t_table_cells 5, on_row cJ r_t_table_cells t_table_cells 6, (h_t_net, .inr (0, [.int q_7.1, .ref h_t_net_rows])), (h_t_net_rows, .inl (cI, 7, .inl q_7.2))]) (wr := [(h_t, .inr (5, [.ref h_t_now, .ref h_t_images, .ref h_t_pad, .ref h_t_net, .ref h_t_second, .ref h_t_renumbering, .ref h_t_table, .ref h_t_marks])), (h_t_now, .inr (3, [.int t_now_many, .ref h_t_now_numbers])), (h_t_now_numbers, .inl (cI, 3, .inl t_now_numbers))]) (wc' := [(h_t_table, .inr (4, [.int q_8.1, .int t_table_rank, .int t_table_sign, .long t_table_lastPivot, .ref h_t_table_cells])), (h_t_table_cells, .inl (cA, 7, .inr (.inr (.inr (.inr (on_rw r_t_table_cells)))))), on_row cJ r_t_table_cells q_8.2 0, on_row cJ r_t_table_cells q_8.2 1, on_row cJ r_t_table_cells q_8.2 2, on_row cJ r_t_table_cells q_8.2 3, on_row cJ r_t_table_cells q_8.2 4, on_row cJ r_t_table_cells q_8.2 5, on_row cJ r_t_table_cells q_8.2 6, (h_t_net, .inr (0, [.int q_7.1, .ref h_t_net_rows])), (h_t_net_rows, .inl (cI, 7, .inl q_7.2))]) (wf := [(h_t, .inr (5, [.ref h_t_now, .ref h_t_images, .ref h_t_pad, .ref h_t_net, .ref h_t_second, .ref h_t_renumbering, .ref h_t_table, .ref h_t_marks])), (h_t_now, .inr (3, [.int t_now_many, .ref h_t_now_numbers])), (h_t_now_numbers, .inl (cI, 3, .inl t_now_numbers)), (h_t_net, .inr (0, [.int q_7.1, .ref h_t_net_rows])), (h_t_net_rows, .inl (cI, 7, .inl q_7.2)), (h_t_table, .inr (4, [.int q_8.1, .int t_table_rank, .int t_table_sign, .long t_table_lastPivot, .ref h_t_table_cells])), (h_t_table_cells, .inl (cA, 7, .inr (.inr (.inr (.inr (on_rw r_t_table_cells)))))), on_row cJ r_t_table_cells q_8.2 0, on_row cJ r_t_table_cells q_8.2 1, on_row cJ r_t_table_cells q_8.2 2, on_row cJ r_t_table_cells q_8.2 3, on_row cJ r_t_table_cells q_8.2 4, on_row cJ r_t_table_cells q_8.2 5, on_row cJ r_t_table_cells q_8.2 6]) (rt := none) ⟨hx, hb, hml, hown, hts⟩ (k_X4_fill h_t_table h_t_table_cells r_t_table_cells h_t_net h_t_net_rows t_table_many t_table_rank t_table_sign t_table_lastPivot t_table_cells q_7.1 q_7.2 v2 q_8 hq_8) ⟨va_cnB 2 hts gX5_root_X4_fill_n187 rfl rfl rfl (hN _ (List.mem_of_getElem? (i := 50) rfl)) w5 hdX4_fill ⟨(Nat.le_of_ble_eq_true rfl), (Nat.le_of_ble_eq_true rfl)⟩, w6, w7⟩ hK hN hP hD hS hA [5, 6, 7, 8, 9, 10, 11, 12, 13, 3, 4] [0, 1, 2] [0, 1, 2, 12, 13, 3, 4, 5, 6, 7, 8, 9, 10, 11] rfl rfl rfl rfl (by decide) rfl rfl rfl rfl rfl rfl hl.1 rfl (Nat.le_of_ble_eq_true rfl) rfl dX5_root_53 ⟨Nat.zero_le _, Nat.zero_le _⟩ (fun H locs hP hD hS => ?_)
        refine lv_aload_n hx hb dX5_root_56 rfl (lv_at hl 0 rfl) ?_
        refine va_get (D := D) (ci := 5) (v := .ref h_t_table) (C := RX5) (T := TX5) (N := 8) hx hb hts w3 hown hK hP 0 rfl rfl 6 (by decide) w4 (fun _ h9 => h9) rfl dX5_root_57 ?_
        obtain ⟨q_9, hq_9, hM⟩ := on_bind hM
        refine on_callVN (rest := []) (As := []) (st1 := []) (C := RX4) (ci := 4) (q0 := 5) (wc := [(h_t_table, .inr (4, [.int q_8.1, .int t_table_rank, .int t_table_sign, .long t_table_lastPivot, .ref h_t_table_cells])), (h_t_table_cells, .inl (cA, 7, .inr (.inr (.inr (.inr (on_rw r_t_table_cells)))))), on_row cJ r_t_table_cells q_8.2 0, on_row cJ r_t_table_cells q_8.2 1, on_row cJ r_t_table_cells q_8.2 2, on_row cJ r_t_table_cells q_8.2 3, on_row cJ r_t_table_cells q_8.2 4, on_row cJ r_t_table_cells q_8.2 5, on_row cJ r_t_table_cells q_8.2 6]) (wr := [(h_t, .inr (5, [.ref h_t_now, .ref h_t_images, .ref h_t_pad, .ref h_t_net, .ref h_t_second, .ref h_t_renumbering, .ref h_t_table, .ref h_t_marks])), (h_t_now, .inr (3, [.int t_now_many, .ref h_t_now_numbers])), (h_t_now_numbers, .inl (cI, 3, .inl t_now_numbers)), (h_t_net, .inr (0, [.int q_7.1, .ref h_t_net_rows])), (h_t_net_rows, .inl (cI, 7, .inl q_7.2))]) (wc' := [(h_t_table, .inr (4, [.int q_8.1, .int q_9.1, .int q_9.2.1, .long q_9.2.2.1, .ref h_t_table_cells])), (h_t_table_cells, .inl (cA, 7, .inr (.inr (.inr (.inr (on_rw r_t_table_cells)))))), on_row cJ r_t_table_cells q_9.2.2.2 0, on_row cJ r_t_table_cells q_9.2.2.2 1, on_row cJ r_t_table_cells q_9.2.2.2 2, on_row cJ r_t_table_cells q_9.2.2.2 3, on_row cJ r_t_table_cells q_9.2.2.2 4, on_row cJ r_t_table_cells q_9.2.2.2 5, on_row cJ r_t_table_cells q_9.2.2.2 6]) (wf := [(h_t, .inr (5, [.ref h_t_now, .ref h_t_images, .ref h_t_pad, .ref h_t_net, .ref h_t_second, .ref h_t_renumbering, .ref h_t_table, .ref h_t_marks])), (h_t_now, .inr (3, [.int t_now_many, .ref h_t_now_numbers])), (h_t_now_numbers, .inl (cI, 3, .inl t_now_numbers)), (h_t_net, .inr (0, [.int q_7.1, .ref h_t_net_rows])), (h_t_net_rows, .inl (cI, 7, .inl q_7.2)), (h_t_table, .inr (4, [.int q_8.1, .int q_9.1, .int q_9.2.1, .long q_9.2.2.1, .ref h_t_table_cells])), (h_t_table_cells, .inl (cA, 7, .inr (.inr (.inr (.inr (on_rw r_t_table_cells)))))), on_row cJ r_t_table_cells q_9.2.2.2 0, on_row cJ r_t_table_cells q_9.2.2.2 1, on_row cJ r_t_table_cells q_9.2.2.2 2, on_row cJ r_t_table_cells q_9.2.2.2 3, on_row cJ r_t_table_cells q_9.2.2.2 4, on_row cJ r_t_table_cells q_9.2.2.2 5, on_row cJ r_t_table_cells q_9.2.2.2 6]) (rt := none) ⟨hx, hb, hml, hown, hts⟩ (k_X4_eliminate h_t_table h_t_table_cells r_t_table_cells q_8.1 t_table_rank t_table_sign t_table_lastPivot q_8.2 q_9 hq_9) ⟨va_cnB 0 hts gX5_root_X4_eliminate_n190 rfl rfl rfl (hN _ (List.mem_of_getElem? (i := 52) rfl)) w5 hdX4_eliminate ⟨(Nat.le_of_ble_eq_true rfl), (Nat.le_of_ble_eq_true rfl)⟩, w8, w9⟩ hK hN hP hD hS hA [5, 6, 7, 8, 9, 10, 11, 12, 13] [0, 1, 2, 3, 4] [0, 1, 2, 3, 4, 5, 6, 7, 8, 9, 10, 11, 12, 13] rfl rfl rfl rfl (by decide) rfl rfl rfl rfl rfl rfl hl.1 rfl (Nat.le_of_ble_eq_true rfl) rfl dX5_root_60 ⟨Nat.zero_le _, Nat.zero_le _⟩ (fun H locs hP hD hS => ?_)
        refine lv_iload_n hx hb dX5_root_63 rfl (lv_at hl 3 rfl) ?_
        refine lv_if_ne (tgt := 77) hx hb dX5_root_64 (by decide) (fun c_10 => ?_) (fun c_10 => ?_)
        · have hM := on_neg c_10 hM
          refine lv_aload_n hx hb dX5_root_77 rfl (lv_at hl 0 rfl) ?_
          refine va_get (D := D) (ci := 5) (v := .ref h_t_now) (C := RX5) (T := TX5) (N := 8) hx hb hts w3 hown hK hP 0 rfl rfl 0 (by decide) w10 (fun _ h9 => h9) rfl dX5_root_78 ?_
          refine va_getN (D := D) (ci := 3) (v := .int t_now_many) (C := RX3) (T := TX3) (N := 2) hx hb hts w11 hown hK hP 1 rfl rfl 0 (by decide) (va_Nw.use rfl (hN _ (List.mem_of_getElem? (i := 0) rfl))) (fun _ h9 => h9) rfl dX5_root_81 ?_
          refine lv_aload_n hx hb dX5_root_84 rfl (lv_at hl 0 rfl) ?_
          refine va_get (D := D) (ci := 5) (v := .ref h_t_table) (C := RX5) (T := TX5) (N := 8) hx hb hts w3 hown hK hP 0 rfl rfl 6 (by decide) w4 (fun _ h9 => h9) rfl dX5_root_85 ?_
          refine va_getN (D := D) (ci := 4) (v := .int q_9.1) (C := RX4) (T := TX4) (N := 5) hx hb hts w12 hown hK hP 5 rfl rfl 1 (by decide) (va_Nw.use rfl (hN _ (List.mem_of_getElem? (i := 8) rfl))) (fun _ h9 => h9) rfl dX5_root_88 ?_
          refine lv_isub hx hb dX5_root_91 ?_
          refine lv_i2l hx hb dX5_root_92 rfl ?_
          have hM := Option.some.inj hM
          subst hM
          rw [← hQ]
          exact on_lret hx hb hr hlk hP hD hS dX5_root_93
        · have hM := on_pos c_10 hM
          refine lv_aload_n hx hb dX5_root_67 rfl (lv_at hl 0 rfl) ?_
          refine va_get (D := D) (ci := 5) (v := .ref h_t_table) (C := RX5) (T := TX5) (N := 8) hx hb hts w3 hown hK hP 0 rfl rfl 6 (by decide) w4 (fun _ h9 => h9) rfl dX5_root_68 ?_
          obtain ⟨q_11, hq_11, hM⟩ := on_bind hM
          refine on_callVN (rest := []) (As := []) (st1 := [.long q_11]) (C := RX4) (ci := 4) (q0 := 5) (wc := [(h_t_table, .inr (4, [.int q_8.1, .int q_9.1, .int q_9.2.1, .long q_9.2.2.1, .ref h_t_table_cells]))]) (wr := [(h_t, .inr (5, [.ref h_t_now, .ref h_t_images, .ref h_t_pad, .ref h_t_net, .ref h_t_second, .ref h_t_renumbering, .ref h_t_table, .ref h_t_marks])), (h_t_now, .inr (3, [.int t_now_many, .ref h_t_now_numbers])), (h_t_now_numbers, .inl (cI, 3, .inl t_now_numbers)), (h_t_net, .inr (0, [.int q_7.1, .ref h_t_net_rows])), (h_t_net_rows, .inl (cI, 7, .inl q_7.2)), (h_t_table_cells, .inl (cA, 7, .inr (.inr (.inr (.inr (on_rw r_t_table_cells)))))), on_row cJ r_t_table_cells q_9.2.2.2 0, on_row cJ r_t_table_cells q_9.2.2.2 1, on_row cJ r_t_table_cells q_9.2.2.2 2, on_row cJ r_t_table_cells q_9.2.2.2 3, on_row cJ r_t_table_cells q_9.2.2.2 4, on_row cJ r_t_table_cells q_9.2.2.2 5, on_row cJ r_t_table_cells q_9.2.2.2 6]) (wc' := [(h_t_table, .inr (4, [.int q_8.1, .int q_9.1, .int q_9.2.1, .long q_9.2.2.1, .ref h_t_table_cells]))]) (wf := [(h_t, .inr (5, [.ref h_t_now, .ref h_t_images, .ref h_t_pad, .ref h_t_net, .ref h_t_second, .ref h_t_renumbering, .ref h_t_table, .ref h_t_marks])), (h_t_now, .inr (3, [.int t_now_many, .ref h_t_now_numbers])), (h_t_now_numbers, .inl (cI, 3, .inl t_now_numbers)), (h_t_net, .inr (0, [.int q_7.1, .ref h_t_net_rows])), (h_t_net_rows, .inl (cI, 7, .inl q_7.2)), (h_t_table, .inr (4, [.int q_8.1, .int q_9.1, .int q_9.2.1, .long q_9.2.2.1, .ref h_t_table_cells])), (h_t_table_cells, .inl (cA, 7, .inr (.inr (.inr (.inr (on_rw r_t_table_cells)))))), on_row cJ r_t_table_cells q_9.2.2.2 0, on_row cJ r_t_table_cells q_9.2.2.2 1, on_row cJ r_t_table_cells q_9.2.2.2 2, on_row cJ r_t_table_cells q_9.2.2.2 3, on_row cJ r_t_table_cells q_9.2.2.2 4, on_row cJ r_t_table_cells q_9.2.2.2 5, on_row cJ r_t_table_cells q_9.2.2.2 6]) (rt := (some (.long q_11))) ⟨hx, hb, hml, hown, hts⟩ (k_X4_determinant h_t_table h_t_table_cells q_8.1 q_9.1 q_9.2.1 q_9.2.2.1 q_11 hq_11) ⟨va_cnB 0 hts gX5_root_X4_determinant_n193 rfl rfl rfl (hN _ (List.mem_of_getElem? (i := 53) rfl)) w5 hdX4_determinant ⟨(Nat.le_of_ble_eq_true rfl), (Nat.le_of_ble_eq_true rfl)⟩, w13, w14⟩ hK hN hP hD hS hA [5] [0, 1, 2, 3, 4, 6, 7, 8, 9, 10, 11, 12, 13] [0, 1, 2, 3, 4, 13, 5, 6, 7, 8, 9, 10, 11, 12] rfl rfl rfl rfl (by decide) rfl rfl rfl rfl rfl rfl hl.1 rfl (Nat.le_of_ble_eq_true rfl) rfl dX5_root_71 ⟨Nat.zero_le _, Nat.zero_le _⟩ (fun H locs hP hD hS => ?_)
          refine lv_goto (tgt := 93) hx hb dX5_root_74 (by decide) ?_
          have hM := Option.some.inj hM
          subst hM
          rw [← hQ]
          exact on_lret hx hb hr hlk hP hD hS dX5_root_93
      · have hM := on_pos c_6 hM
        refine lv_ldc2 hx hb hown w1 dX5_root_31 ?_
        have hM := Option.some.inj hM
        subst hM
        rw [← hQ]
        exact on_lret hx hb hr hlk hP hD hS dX5_root_34
  · have hM := on_pos c_2 hM
    refine lv_ldc2 hx hb hown w15 dX5_root_7 ?_
    have hM := Option.some.inj hM
    subst hM
    rw [← hQ]
    exact on_lret hx hb hr hlk hP hD hS dX5_root_10
abbrev rm_X3_copy : Room := { frames := 1, cells := 0, slots := 0, locals := 64 }
set_option maxHeartbeats 4000000 in
set_option maxRecDepth 100000 in
theorem k_X3_copy {l : Launch} {D : va_G} {cI cJ cZ cS cA : ClassId} (h_t : Nat) (h_t_numbers : Nat) (h_p0 : Nat) (h_p0_numbers : Nat) (t_many : Int32) (t_numbers : Nat → Int32) (p0_many : Int32) (p0_numbers : Nat → Int32)  (out : Int32 × (Nat → Int32)) (hM : M_X3_copy t_numbers p0_many p0_numbers = some out) : on_Con l yX3_copy wsX3_copy rm_X3_copy [.ref h_t, .ref h_p0] D (on_T cI cJ cZ cS cA) [(h_t, .inr (3, [.int t_many, .ref h_t_numbers])), (h_t_numbers, .inl (cI, 3, .inl t_numbers)), (h_p0, .inr (3, [.int p0_many, .ref h_p0_numbers])), (h_p0_numbers, .inl (cI, 3, .inl p0_numbers))] none [(h_t, .inr (3, [.int out.1, .ref h_t_numbers])), (h_t_numbers, .inl (cI, 3, .inl out.2)), (h_p0, .inr (3, [.int p0_many, .ref h_p0_numbers])), (h_p0_numbers, .inl (cI, 3, .inl p0_numbers))] := by
  unfold M_X3_copy at hM
  refine on_enter (cc := cX3_copy) (nL := 2) (rt := none) (own := RX3) (by decide +kernel) rfl rfl (Nat.le_of_ble_eq_true rfl) ?_
  intro p e s m below meth c A ls hx hb hml hr hlk hts hown hA hK hN H locs hP hD hS hl
  have hl : lv_has ls 2 [(0, .ref h_t), (1, .ref h_p0)] := hl
  generalize hQ : MQ below (on_Q D none [(h_t, .inr (3, [.int out.1, .ref h_t_numbers])), (h_t_numbers, .inl (cI, 3, .inl out.2)), (h_p0, .inr (3, [.int p0_many, .ref h_p0_numbers])), (h_p0_numbers, .inl (cI, 3, .inl p0_numbers))] A) _ s 0 0 A = Q
  generalize hAr : List.toArray ([.ref h_t, .ref h_p0] : List Value) = args at hts hQ ⊢
  have w1 := hts (.fieldLink RX3 9 "OddNets$Shelf" "many" "I") (by decide +kernel)
  have w2 : ∀ w ∈ wsX30, w ∈ wsX3_copy := by decide +kernel
  have w3 := hts (.fieldLink RX3 15 "OddNets$Shelf" "numbers" "[I") (by decide +kernel)
  have w4 := hts (.methodLink RX3 25 arraycopyName) (by decide +kernel)
  have w5 := hts (.native arraycopyName) (by decide +kernel)
  have w6 := hts (.static arraycopyName) (by decide +kernel)
  have w7 := hts (.initialized "java/lang/System") (by decide +kernel)
  refine lv_aload_n hx hb dX3_copy_0 rfl (lv_at hl 0 rfl) ?_
  refine lv_aload_n hx hb dX3_copy_1 rfl (lv_at hl 1 rfl) ?_
  refine va_get (D := D) (ci := 3) (v := .int p0_many) (C := RX3) (T := TX3) (N := 2) hx hb hts w2 hown hK hP 2 rfl rfl 0 (by decide) w1 (fun _ h9 => h9) rfl dX3_copy_2 ?_
  refine va_put (D := D) (ci := 3) (v := .int p0_many) (ty := .int) (C := RX3) (T := TX3) (N := 2) hx hb hts w2 tyX3 tyX3_ok nmX3 hown hK hP hD hS 0 rfl rfl 0 (by decide) w1 (fun _ h9 => h9) rfl (by decide +kernel) rfl rfl (Nat.le_of_ble_eq_true rfl) dX3_copy_5 (fun H locs hP hD hS => ?_)
  have hP : va_P D vwCl [(h_t, .inr (3, [.int p0_many, .ref h_t_numbers])), (h_t_numbers, .inl (cI, 3, .inl t_numbers)), (h_p0, .inr (3, [.int p0_many, .ref h_p0_numbers])), (h_p0_numbers, .inl (cI, 3, .inl p0_numbers))] H := hP
  have hD : va_D A [(h_t, .inr (3, [.int p0_many, .ref h_t_numbers])), (h_t_numbers, .inl (cI, 3, .inl t_numbers)), (h_p0, .inr (3, [.int p0_many, .ref h_p0_numbers])), (h_p0_numbers, .inl (cI, 3, .inl p0_numbers))] := hD
  refine lv_aload_n hx hb dX3_copy_8 rfl (lv_at hl 1 rfl) ?_
  refine va_get (D := D) (ci := 3) (v := .ref h_p0_numbers) (C := RX3) (T := TX3) (N := 2) hx hb hts w2 hown hK hP 2 rfl rfl 1 (by decide) w3 (fun _ h9 => h9) rfl dX3_copy_9 ?_
  refine lv_iconst (v := 0) hx hb dX3_copy_12 (by decide) ?_
  refine lv_aload_n hx hb dX3_copy_13 rfl (lv_at hl 0 rfl) ?_
  refine va_get (D := D) (ci := 3) (v := .ref h_t_numbers) (C := RX3) (T := TX3) (N := 2) hx hb hts w2 hown hK hP 0 rfl rfl 1 (by decide) w3 (fun _ h9 => h9) rfl dX3_copy_14 ?_
  refine lv_iconst (v := 0) hx hb dX3_copy_17 (by decide) ?_
  refine lv_iconst (v := 3) hx hb dX3_copy_18 (by decide) ?_
  refine va_copyi (rest := []) (ty := .int) hx hb (hml.trans hl.1.symm) hown w4 w5 w6 w7 hK hP hD hS 3 1 0 0 rfl rfl rfl rfl rfl (by decide) (by decide) (by decide) (by decide) (by decide) (fun i hi => rfl) (Nat.le_of_ble_eq_true rfl) (Nat.le_of_ble_eq_true rfl) dX3_copy_19 (fun H locs hP hD hS => ?_)
  have hP : va_P D vwCl [(h_t, .inr (3, [.int p0_many, .ref h_t_numbers])), (h_t_numbers, .inl (cI, 3, .inl (va_cpy p0_numbers t_numbers 0 0 3))), (h_p0, .inr (3, [.int p0_many, .ref h_p0_numbers])), (h_p0_numbers, .inl (cI, 3, .inl p0_numbers))] H := hP
  have hD : va_D A [(h_t, .inr (3, [.int p0_many, .ref h_t_numbers])), (h_t_numbers, .inl (cI, 3, .inl (va_cpy p0_numbers t_numbers 0 0 3))), (h_p0, .inr (3, [.int p0_many, .ref h_p0_numbers])), (h_p0_numbers, .inl (cI, 3, .inl p0_numbers))] := hD
  have hM := Option.some.inj hM
  subst hM
  rw [← hQ]
  exact on_vret hx hb hr hlk hP hD hS dX3_copy_22
