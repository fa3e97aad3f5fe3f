/-! THE CLAIM OUT OF ONE WALK OF THE LAW'S BODY. Your part is whole_start (and what it stands on); all else here is the same for every law, but numbers. -/
def R_law : String := "OddNetsLaw"
def lw_P (b : Addr) (xs : List Int32) (args : Array Value) (s : State) : Prop := args = #[.ref b] ∧ s.IntsAt b xs ∧ xs.length ≤ 2560 ∧ (Jvm.Cond.and given_1 narrow_1).before args s = true
def lw_Q (_ : Array Value) (s : State) (o : Outcome) (t : State) : Prop := o = .returned (some (.int 1)) ∧ Framed s o t [] 600000 7302250
def lw_Z (below : List Frame) (a : Array Value) (s : State) : State → Prop := fun t => ∃ o, t.status = .running ∧ Ended t below o ∧ lw_Q a s o t
/-- the law's own end, with 1 on the stack, nothing written that was there before, its room as the claim has it -/
theorem lw_ret {p : Program} {l : Launch} {e : Env} {s : State} {m : MethodId} {below : List Frame} {meth : Method} {c : Code} {b : Nat} (hx : p.tables.exec = Jvm.exec) (hb : c.code = code) (hr : meth.sig.returnType = ret) (hlocks : meth.locks = false) {pc : Nat} {H : Heap} {ls : Array Slot} (hdg : decode code pc = .ok (.ireturn, 1)) : W p l e room_1 s m #[Value.ref b] below meth c H [] 600000 7302250 (lw_Z below #[Value.ref b] s) (F0 m pc ls [.int 1]) := by
  intro T hT X
  obtain ⟨fs, hret, hrun, hended, hW, hframe⟩ := X.leave (v := some (.int 1)) (hlocks := hlocks) (fun h => by rw [hr] at h; cases h)
  have hmeth' : T.vm.method? m = some meth := X.method'
  refine ⟨T.setFrames fs, ?_, .returned (some (.int 1)), hrun, hended, rfl, ⟨_, rfl⟩, hW, hframe⟩
  jvm_step X.here [X.here.top, hx, hb, hdg, hmeth', hr, ret, narrow_b1]
  (try refine ⟨rfl, ?_⟩); (try refine ⟨rfl, ?_⟩)
  first | (intro acts; rw [hret _ acts rfl rfl rfl]) | rw [hret _ _ rfl rfl rfl]
  exact Steps.refl _
/-- what holds at the law's entry: the machine, the code, the tables' words (any of lw_tbl by 'hts w (by decide +kernel)'), the script of L ints xs at the cell b, what the Statement gives of the start (any of its parts by flat_of_before) -/
def lw_At (p : Program) (s : State) (m : MethodId) (meth : Method) (c : Code) (b L : Nat) (xs : Nat → Int32) : Prop :=
  p.tables.exec = Jvm.exec ∧ c.code = code ∧ meth.sig.returnType = ret ∧ c.maxLocals = 4 ∧ s.vm.findClass R_law = some m.cls ∧ (∀ w ∈ lw_tbl, w.before #[Value.ref b] s = true) ∧ va_X b L xs s s.heap ∧ b < s.heap.size ∧ meth.locks = false ∧ (Jvm.Cond.and given_1 narrow_1).before #[Value.ref b] s = true
theorem lw_gt {L i : Nat} (hL : L ≤ 2560) (hi : i ≤ 2570) (h : L < i + 5) : Int32.ofNat L - 5 < nI i := by
  by_cases h5 : 5 ≤ L
  · show nI L - 5 < nI i
    rw [show (5 : Int32) = nI 5 by decide, nI_sub h5]
    exact nI_lt (by omega) (by omega)
  · have h0 : ∀ L, L < 5 → Int32.ofNat L - 5 < 0 := by decide
    exact fa_trans (h0 L (by omega)) (by rw [nt_n0]; exact nI_le (Nat.zero_le _) (by omega))
/-! ===== the law's loop ===== -/
set_option maxHeartbeats 4000000 in
set_option maxRecDepth 100000 in
theorem lw_loop {p : Program} {l : Launch} {e : Env} {s : State} {m : MethodId} {below : List Frame} {meth : Method} {c : Code} {D : va_G} {cI cJ cZ cS cA : ClassId} {a b rr : Nat → Nat} {bb L : Nat} {xs : Nat → Int32} (hC : lw_C p s m c D cI cJ cZ cS cA (fun q => s.heap.size ≤ q) bb L xs) (hr : meth.sig.returnType = ret) (hlk : meth.locks = false) : ∀ (n i : Nat), L ≤ i + 5 * n → i ≤ 2570 → ∀ (ls : Array Slot) (H : Heap) (locs : List Loc), lv_has ls 4 [(3, .int (nI i)), (2, .ref (b 0)), (1, .ref (a 0)), (0, .ref bb)] → lw_J D cI cJ cZ cS cA a b rr (fun q => s.heap.size ≤ q) s H locs → W p l e room_1 s m #[Value.ref bb] below meth c H locs 600000 7302250 (lw_Z below #[Value.ref bb] s) (F0 m 18 ls []) := by
  intro n
  induction n with
  | zero =>
    intro i hn hi ls H locs hl hJ
    obtain ⟨hx, hb, hml, hown, hts, hK, hN, hA, hX, hbl, hbA, hL⟩ := hC
    obtain ⟨t_now_many, t_now_numbers, t_images_0_many, t_images_0_numbers, t_images_1_many, t_images_1_numbers, t_pad_size, t_pad_signs, t_net_many, t_net_rows, t_second_many, t_second_rows, t_renumbering_at, t_table_many, t_table_rank, t_table_sign, t_table_lastPivot, t_table_cells, t_marks, t_said, t_leastSize, t_leastSet, t_found, t_rank, t_determinant, t_state, t_images, t_isKept, t_pad, t_row, t_isUsed, t_table, hSS, hI0, hI1, hPP, hP, hD, hS⟩ := hJ
    refine lv_iload_n hx hb dL_law_18 rfl (lv_at hl 0 rfl) ?_
    refine lv_aload_n hx hb dL_law_19 rfl (lv_at hl 3 rfl) ?_
    refine va_slen hx hb hX hbl hbA hS dL_law_20 ?_
    refine lv_iconst (v := 5) hx hb dL_law_21 (by decide) ?_
    refine lv_isub hx hb dL_law_22 ?_
    refine lv_icmp_gt (tgt := 842) hx hb dL_law_23 (by decide) (fun _ => ?_) (fun c9 => absurd (lw_gt (L := L) (i := i) (by omega) (by omega) (by omega)) c9)
    refine lv_iconst (v := 1) hx hb dL_law_842 (by decide) ?_
    exact va_forget hS.2.2 (lw_ret hx hb hr hlk dL_law_843)
  | succ n ih =>
    intro i hn hi ls H locs hl hJ
    have hJ0 := hJ
    have hC0 := hC
    obtain ⟨hx, hb, hml, hown, hts, hK, hN, hA, hX, hbl, hbA, hL⟩ := hC
    obtain ⟨t_now_many, t_now_numbers, t_images_0_many, t_images_0_numbers, t_images_1_many, t_images_1_numbers, t_pad_size, t_pad_signs, t_net_many, t_net_rows, t_second_many, t_second_rows, t_renumbering_at, t_table_many, t_table_rank, t_table_sign, t_table_lastPivot, t_table_cells, t_marks, t_said, t_leastSize, t_leastSet, t_found, t_rank, t_determinant, t_state, t_images, t_isKept, t_pad, t_row, t_isUsed, t_table, hSS, hI0, hI1, hPP, hP, hD, hS⟩ := hJ
    refine lv_iload_n hx hb dL_law_18 rfl (lv_at hl 0 rfl) ?_
    refine lv_aload_n hx hb dL_law_19 rfl (lv_at hl 3 rfl) ?_
    refine va_slen hx hb hX hbl hbA hS dL_law_20 ?_
    refine lv_iconst (v := 5) hx hb dL_law_21 (by decide) ?_
    refine lv_isub hx hb dL_law_22 ?_
    refine lv_icmp_gt (tgt := 842) hx hb dL_law_23 (by decide) (fun _ => ?_) (fun c9 => ?_)
    · refine lv_iconst (v := 1) hx hb dL_law_842 (by decide) ?_
      exact va_forget hS.2.2 (lw_ret hx hb hr hlk dL_law_843)
    have h5 : i + 5 ≤ L := Nat.le_of_not_lt (fun h => c9 (lw_gt (by omega) (by omega) (by omega)))
    have kk : ∀ (H : Heap) (locs : List Loc), lw_J D cI cJ cZ cS cA a b rr (fun q => s.heap.size ≤ q) s H locs → W p l e room_1 s m #[Value.ref bb] below meth c H locs 600000 7302250 (lw_Z below #[Value.ref bb] s) (F0 m 836 ls []) := by
      intro H locs hJ
      refine lv_iinc (v := nI (i + 5)) (lv' := [(3, .int (nI (i + 5))), (2, .ref (b 0)), (1, .ref (a 0)), (0, .ref bb)]) hx hb dL_law_836 hl (k := 0) rfl (nI_add i 5) (by decide) rfl (fun ls hl => ?_)
      refine lv_goto (tgt := 18) hx hb dL_law_839 (by decide) ?_
      exact ih (i + 5) (by omega) (by omega) ls H locs hl hJ
    refine lv_aload_n hx hb dL_law_26 rfl (lv_at hl 3 rfl) ?_
    refine lv_iload_n hx hb dL_law_27 rfl (lv_at hl 0 rfl) ?_
    refine va_sld hx hb hX hbl hbA hS (on_ixE (ml_ix (by omega) (by omega))) dL_law_28 ?_
    refine lv_bipush (v := 31) hx hb dL_law_29 (by decide) ?_
    refine lv_iand hx hb dL_law_31 ?_
    generalize (xs (Int32.toNatClampNeg (nI i)) &&& 31 : Int32) = x
    by_cases x0 : x = nI 0
    · subst x0
      refine lv_tableIn (tgt := 132) hx hb dL_law_32 (by decide) (by decide) rfl (by decide) ?_
      exact lw_c0 hC0 h5 hl hJ0 kk
    by_cases x1 : x = nI 1
    · subst x1
      refine lv_tableIn (tgt := 155) hx hb dL_law_32 (by decide) (by decide) rfl (by decide) ?_
      exact lw_c1 hC0 h5 hl hJ0 kk
    by_cases x2 : x = nI 2
    · subst x2
      refine lv_tableIn (tgt := 208) hx hb dL_law_32 (by decide) (by decide) rfl (by decide) ?_
      exact lw_c2 hC0 h5 hl hJ0 kk
    by_cases x3 : x = nI 3
    · subst x3
      refine lv_tableIn (tgt := 241) hx hb dL_law_32 (by decide) (by decide) rfl (by decide) ?_
      exact lw_c3 hC0 h5 hl hJ0 kk
    by_cases x4 : x = nI 4
    · subst x4
      refine lv_tableIn (tgt := 264) hx hb dL_law_32 (by decide) (by decide) rfl (by decide) ?_
      exact lw_c4 hC0 h5 hl hJ0 kk
    by_cases x5 : x = nI 5
    · subst x5
      refine lv_tableIn (tgt := 277) hx hb dL_law_32 (by decide) (by decide) rfl (by decide) ?_
      exact lw_c5 hC0 h5 hl hJ0 kk
    by_cases x6 : x = nI 6
    · subst x6
      refine lv_tableIn (tgt := 300) hx hb dL_law_32 (by decide) (by decide) rfl (by decide) ?_
      exact lw_c6 hC0 h5 hl hJ0 kk
    by_cases x7 : x = nI 7
    · subst x7
      refine lv_tableIn (tgt := 333) hx hb dL_law_32 (by decide) (by decide) rfl (by decide) ?_
      exact lw_c7 hC0 h5 hl hJ0 kk
    by_cases x8 : x = nI 8
    · subst x8
      refine lv_tableIn (tgt := 376) hx hb dL_law_32 (by decide) (by decide) rfl (by decide) ?_
      exact lw_c8 hC0 h5 hl hJ0 kk
    by_cases x9 : x = nI 9
    · subst x9
      refine lv_tableIn (tgt := 409) hx hb dL_law_32 (by decide) (by decide) rfl (by decide) ?_
      exact lw_c9 hC0 h5 hl hJ0 kk
    by_cases x10 : x = nI 10
    · subst x10
      refine lv_tableIn (tgt := 452) hx hb dL_law_32 (by decide) (by decide) rfl (by decide) ?_
      exact lw_c10 hC0 h5 hl hJ0 kk
    by_cases x11 : x = nI 11
    · subst x11
      refine lv_tableIn (tgt := 505) hx hb dL_law_32 (by decide) (by decide) rfl (by decide) ?_
      exact lw_c11 hC0 h5 hl hJ0 kk
    by_cases x12 : x = nI 12
    · subst x12
      refine lv_tableIn (tgt := 538) hx hb dL_law_32 (by decide) (by decide) rfl (by decide) ?_
      exact lw_c12 hC0 h5 hl hJ0 kk
    by_cases x13 : x = nI 13
    · subst x13
      refine lv_tableIn (tgt := 571) hx hb dL_law_32 (by decide) (by decide) rfl (by decide) ?_
      exact lw_c13 hC0 h5 hl hJ0 kk
    by_cases x14 : x = nI 14
    · subst x14
      refine lv_tableIn (tgt := 614) hx hb dL_law_32 (by decide) (by decide) rfl (by decide) ?_
      exact lw_c14 hC0 h5 hl hJ0 kk
    by_cases x15 : x = nI 15
    · subst x15
      refine lv_tableIn (tgt := 657) hx hb dL_law_32 (by decide) (by decide) rfl (by decide) ?_
      exact lw_c15 hC0 h5 hl hJ0 kk
    by_cases x16 : x = nI 16
    · subst x16
      refine lv_tableIn (tgt := 690) hx hb dL_law_32 (by decide) (by decide) rfl (by decide) ?_
      exact lw_c16 hC0 h5 hl hJ0 kk
    by_cases x17 : x = nI 17
    · subst x17
      refine lv_tableIn (tgt := 723) hx hb dL_law_32 (by decide) (by decide) rfl (by decide) ?_
      exact lw_c17 hC0 h5 hl hJ0 kk
    by_cases x18 : x = nI 18
    · subst x18
      refine lv_tableIn (tgt := 767) hx hb dL_law_32 (by decide) (by decide) rfl (by decide) ?_
      exact lw_c18 hC0 h5 hl hJ0 kk
    by_cases x19 : x = nI 19
    · subst x19
      refine lv_tableIn (tgt := 790) hx hb dL_law_32 (by decide) (by decide) rfl (by decide) ?_
      exact lw_c19 hC0 h5 hl hJ0 kk
    by_cases x20 : x = nI 20
    · subst x20
      refine lv_tableIn (tgt := 813) hx hb dL_law_32 (by decide) (by decide) rfl (by decide) ?_
      exact lw_c20 hC0 h5 hl hJ0 kk
    refine lv_tableOut (tgt := 836) hx hb dL_law_32 (on_swOut (n := 21) (fun k hk => by rcases (show k = 0 ∨ k = 1 ∨ k = 2 ∨ k = 3 ∨ k = 4 ∨ k = 5 ∨ k = 6 ∨ k = 7 ∨ k = 8 ∨ k = 9 ∨ k = 10 ∨ k = 11 ∨ k = 12 ∨ k = 13 ∨ k = 14 ∨ k = 15 ∨ k = 16 ∨ k = 17 ∨ k = 18 ∨ k = 19 ∨ k = 20 by omega) with rfl | rfl | rfl | rfl | rfl | rfl | rfl | rfl | rfl | rfl | rfl | rfl | rfl | rfl | rfl | rfl | rfl | rfl | rfl | rfl | rfl <;> assumption) (by decide)) (by decide) ?_
    exact kk H locs hJ0
set_option maxHeartbeats 4000000 in
set_option maxRecDepth 100000 in
theorem whole_start {p : Program} {e : Env} {s : State} {m : MethodId} {below : List Frame} {meth : Method} {c : Code} (l : Launch) (hflags : l.flags = flags0) {b L : Nat} {xs : Nat → Int32} (hL : L ≤ 2560) (C0 : lw_At p s m meth c b L xs) : W p l e room_1 s m #[Value.ref b] below meth c s.heap [] 0 0 (lw_Z below #[Value.ref b] s) (entryFrame m ([Value.ref b] : List Value).toArray 4) := by
  obtain ⟨hx, hb, hr, hml, hown, htb, hX, hbl, hlk, _⟩ := C0
  have hb : c.code = cL_law := hb
  have hown : s.vm.findClass RL = some m.cls := hown
  have hN := lw_N htb
  have hO := lw_O htb
  obtain ⟨D, cI, cJ, cZ, cS, cA, hK⟩ := lw_K htb
  have hts : ∀ w ∈ wsL_law, w.before #[Value.ref b] s = true := fun w hw => htb w (wsL_law_in w hw)
  have hA : ∀ q, s.heap.size ≤ q → (fun q => s.heap.size ≤ q) q := fun q h => h
  have hC : lw_C p s m c D cI cJ cZ cS cA (fun q => s.heap.size ≤ q) b L xs := ⟨hx, hb, hml, hown, hts, hK, hN, hA, hX, hbl, Nat.not_le.mpr hbl, hL⟩
  have hl := lv_entry ([.ref b] : List Value) (n := 4) (Nat.le_of_ble_eq_true rfl)
  rw [lg_entry_eq]
  generalize (lg_sl ([.ref b] : List Value) ++ List.replicate (4 - (lg_sl ([.ref b] : List Value)).length) Slot.unset).toArray = ls at hl ⊢
  have hl : lv_has ls 4 [(0, .ref b)] := hl
  have hS : va_S (fun q => s.heap.size ≤ q) s.heap s.heap [] := va_S.rf
  have hP : va_P D vwCl [] s.heap := fun k q hq => by cases hq
  have hD : va_D (fun q => s.heap.size ≤ q) [] := ⟨fun i j x y hi _ _ => by simp at hi, fun k x hx => by simp at hx⟩
  refine va_new (ci := 5) (fs := [.null, .null, .null, .null, .null, .null, .null, .null]) (C := RX5) (T := TX5) (N := 8) hx hb hts inlX5 tyX5 tyX5_ok hown (hts (.classLink RL 7 RX5) (by decide +kernel)) (hts (.instantiable RX5 8) (by decide +kernel)) (hts (.initialized RX5) (by decide +kernel)) hK hP hD hS hA rfl (fun j hj => by rcases (show j = 0 ∨ j = 1 ∨ j = 2 ∨ j = 3 ∨ j = 4 ∨ j = 5 ∨ j = 6 ∨ j = 7 by omega) with rfl | rfl | rfl | rfl | rfl | rfl | rfl | rfl <;> rfl) (Nat.le_of_ble_eq_true rfl) (Nat.le_of_ble_eq_true rfl) dL_law_0 (fun h0 H hP hD hS => ?_)
  have hP : va_P D vwCl [(h0, .inr (5, [.null, .null, .null, .null, .null, .null, .null, .null]))] H := hP
  have hD : va_D (fun q => s.heap.size ≤ q) [(h0, .inr (5, [.null, .null, .null, .null, .null, .null, .null, .null]))] := hD
  refine W.widen (k := 1) (n := 8) (Nat.le_of_ble_eq_true rfl) (Nat.le_of_ble_eq_true rfl) ?_
  refine lv_dup hx hb dL_law_3 rfl ?_
  refine on_callI (rest := [.ref h0]) (wc := [(h0, .inr (5, [.null, .null, .null, .null, .null, .null, .null, .null]))]) (wr := []) ⟨hx, hb, hml, hown, hts⟩ (c_X5_init h0) (cwI 0 hts gL_law_X5_init rfl rfl rfl (hts (.initialized RX5) (by decide +kernel)) (hts (.methodLink RL 9 yX5_init) (by decide +kernel)) (hts (.instanceMethod yX5_init) (by decide +kernel)) rfl hdX5_init ⟨(Nat.le_of_ble_eq_true rfl), (Nat.le_of_ble_eq_true rfl)⟩) hK hN hO hP hD hS hA [0] [] rfl rfl rfl rfl (by decide) hl.1 rfl (Nat.le_of_ble_eq_true rfl) dL_law_4 ⟨(Nat.le_of_ble_eq_true rfl), (Nat.le_of_ble_eq_true rfl)⟩ (fun w9 H2 locs hw9 hP2 hD2 hS2 => ?_)
  obtain ⟨a, rr, ea, rfl⟩ := hw9
  subst ea
  have hP := hP2
  have hD := hD2
  have hS := hS2
  refine W.widen (k := 26) (n := 152) (Nat.le_of_ble_eq_true rfl) (Nat.le_of_ble_eq_true rfl) ?_
  refine lv_astore_n (lv' := [(1, .ref (a 0)), (0, .ref b)]) hx hb dL_law_7 rfl hl (by decide) rfl (fun ls hl => ?_)
  refine va_new (ci := 6) (fs := [.null, .null, .null, .null, .int 0, .int 0, .int 0, .int 0, .null, .null, .null, .int 0, .long 0]) (C := RX6) (T := TX6) (N := 13) hx hb hts inlX6 tyX6 tyX6_ok hown (hts (.classLink RL 10 RX6) (by decide +kernel)) (hts (.instantiable RX6 13) (by decide +kernel)) (hts (.initialized RX6) (by decide +kernel)) hK hP hD hS hA rfl (fun j hj => by rcases (show j = 0 ∨ j = 1 ∨ j = 2 ∨ j = 3 ∨ j = 4 ∨ j = 5 ∨ j = 6 ∨ j = 7 ∨ j = 8 ∨ j = 9 ∨ j = 10 ∨ j = 11 ∨ j = 12 by omega) with rfl | rfl | rfl | rfl | rfl | rfl | rfl | rfl | rfl | rfl | rfl | rfl | rfl <;> rfl) (Nat.le_of_ble_eq_true rfl) (Nat.le_of_ble_eq_true rfl) dL_law_8 (fun h6 H hP hD hS => ?_)
  refine W.widen (k := 27) (n := 165) (Nat.le_of_ble_eq_true rfl) (Nat.le_of_ble_eq_true rfl) ?_
  refine lv_dup hx hb dL_law_11 rfl ?_
  refine on_callI (rest := [.ref h6]) (wc := [(h6, .inr (6, [.null, .null, .null, .null, .int 0, .int 0, .int 0, .int 0, .null, .null, .null, .int 0, .long 0]))]) (wr := on_W5 cI cJ cS cA a rr 5 (fa_fill (fun _ => 0) (fun _ => 0) 3) 0 (fun _ => 0) 0 (fun _ => 0) 0 (fun _ => 0) 0 (fun _ => 0) 0 (fun _ => 0) (fun _ => 0) 0 0 1 1 (fun _ _ => 0) (fun _ => 0)) ⟨hx, hb, hml, hown, hts⟩ (c_X6_init h6) (cwI 0 hts gL_law_X6_init rfl rfl rfl (hts (.initialized RX6) (by decide +kernel)) (hts (.methodLink RL 12 yX6_init) (by decide +kernel)) (hts (.instanceMethod yX6_init) (by decide +kernel)) rfl hdX6_init ⟨(Nat.le_of_ble_eq_true rfl), (Nat.le_of_ble_eq_true rfl)⟩) hK hN hO hP hD hS hA [26] [0, 1, 2, 3, 4, 5, 6, 7, 8, 9, 10, 11, 12, 13, 14, 15, 16, 17, 18, 19, 20, 21, 22, 23, 24, 25] rfl rfl rfl rfl (by decide) hl.1 rfl (Nat.le_of_ble_eq_true rfl) dL_law_12 ⟨(Nat.le_of_ble_eq_true rfl), (Nat.le_of_ble_eq_true rfl)⟩ (fun w9 H locs hw9 hP hD hS => ?_)
  obtain ⟨q0, q1, q2, q3, q8, q9, q10, rfl⟩ := hw9
  refine W.widen (k := 600000) (n := 7302250) (Nat.le_of_ble_eq_true rfl) (Nat.le_of_ble_eq_true rfl) ?_
  refine lv_astore_n (lv' := [(2, .ref h6), (1, .ref (a 0)), (0, .ref b)]) hx hb dL_law_15 rfl hl (by decide) rfl (fun ls hl => ?_)
  refine lv_iconst (v := 0) hx hb dL_law_16 (by decide) ?_
  refine lv_istore_n (lv' := [(3, .int 0), (2, .ref h6), (1, .ref (a 0)), (0, .ref b)]) hx hb dL_law_17 rfl hl (by decide) rfl (fun ls hl => ?_)
  have hup : upd (fun _ => (0 : Int32)) 0 5 0 = nI 5 := rfl
  refine lw_loop (a := a) (b := fun k => ([h6, q0, q1, q2, q3, q8, q9, q10] : List Nat).getD k 0) (rr := rr) hC hr hlk 513 0 (by omega) (by omega) ls H locs hl ⟨5, fa_fill (fun _ => 0) (fun _ => 0) 3, 0, fun _ => 0, 0, fun _ => 0, 0, fun _ => 0, 0, fun _ => 0, 0, fun _ => 0, fun _ => 0, 0, 0, 1, 1, fun _ _ => 0, fun _ => 0, 0, 0, 0, 0, 0, 0, upd (fun _ => 0) 0 5, fun _ => 0, fun _ => 0, fun _ => 0, fun _ => 0, fun _ => 0, fun _ => 0, ⟨5, fun _ => 0, by decide, by decide, rfl, rfl, fun k k3 => ⟨Nat.two_pow_pos _, fa_fill_in k3, if_neg (by omega)⟩⟩, Or.inl ⟨rfl, rfl⟩, Or.inl ⟨rfl, rfl⟩, ⟨0, by decide, rfl, rfl, fun i hi => absurd hi (Nat.not_lt_zero i)⟩, hP, hD, hS⟩
set_option maxHeartbeats 4000000 in
theorem lw_walk (l : Launch) (hflags : l.flags = flags0) (b : Addr) (xs : List Int32) : MetFree l x (headSpec (Jvm.Cond.code x code maxLocals ret :: tables_1) room_1) (lw_P b xs) (fun _ _ _ _ _ => True) lw_Q := by
  refine MetFree.of_bodyS (code := code) (maxLocals := maxLocals) (ret := ret) (by decide) ?_ ?_
  · intro args s m h hn
    obtain ⟨meth, c, h1, h2, h3, h4, h5, h6, -, -⟩ := Cond.code_spec hn (atoms_spec (ws := Jvm.Cond.code x code maxLocals ret :: tables_1) h _ List.mem_cons_self)
    exact ⟨meth, c, h1, h2, h3, h4, h5, h6⟩
  · intro p e s m args below meth c s₁ B hml0 hP _
    obtain ⟨rfl, hx, hbd, hgv⟩ := hP
    obtain ⟨scr, harrAt, hlist, hof, hsmall⟩ := hx
    obtain ⟨hcb, hkn, -, -⟩ := State.arrayAt?_spec harrAt
    have hown : s.vm.findClass R_law = some m.cls := findClass_of_methodNamed B.named
    have hts0 : ∀ c ∈ (Jvm.Cond.code x code maxLocals ret :: tables_1), c.before #[Value.ref b] s = true := atoms_spec (ws := Jvm.Cond.code x code maxLocals ret :: tables_1) B.pre
    have hts : ∀ w ∈ lw_tbl, w.before #[Value.ref b] s = true := k2_hts_sels lw_privs (fun w hw => hts0 w (List.mem_cons_of_mem _ hw)) lw_privs_ok
    have hml : c.maxLocals = 4 := B.maxLocals_eq (hts0 _ List.mem_cons_self)
    have X₀ : Stand p l e room_1 s m #[Value.ref b] below meth c s₁ [] 0 0 := Stand.of_body B
    have hh0 : s₁.heap = s.heap := by rw [B.state]; rfl
    have hsz : scr.slots.size = xs.length := by rw [← Array.length_toList, hlist, List.length_map]
    have hval : ∀ j : Nat, j < xs.length → scr.slots[j]? = some (.int (xs.getD j 0)) := fun j hj => by
      rw [← Array.getElem?_toList, hlist]
      simp [hj]
    have hbl : b < s.heap.size := (Array.getElem?_eq_some_iff.mp hcb).1
    have hX : va_X b xs.length (fun j => xs.getD j 0) s s.heap := ⟨scr, hcb, hof, hkn, hsz, hval⟩
    have K : W p l e room_1 s m #[Value.ref b] below meth c s₁.heap [] 0 0 (lw_Z below #[Value.ref b] s) (entryFrame m ([Value.ref b] : List Value).toArray 4) := by
      rw [hh0]
      exact whole_start l hflags hbd ⟨B.exec, B.bytes, B.returns, hml, hown, hts, hX, hbl, B.notSynchronized, hgv⟩
    obtain ⟨t, a1, o, b1, b2, b3⟩ := K s₁ rfl X₀
    exact ⟨t, o, a1, b1, b2, b3⟩
theorem lw_pre_spec {args : Array Value} {s : State} (h : (Jvm.Cond.and given_1 narrow_1).before args s = true) (hr : rest_1_c.before args s = true) : ∃ (b : Addr) (xs : List Int32), lw_P b xs args s := by
  have hs := flat_of_before _ h
  have hq := flat_of_before _ hr
  have hc : (Cond.count 1).before args s = true := hs _ (by decide +kernel)
  have harr : (Cond.arrayOf (.arg 0) .int).before args s = true := hs _ (by decide +kernel)
  have hle : (Cond.le (.length (.arg 0)) (.int 2560)).before args s = true := hs _ (by decide +kernel)
  have hlen : (Cond.isInt (.length (.arg 0))).before args s = true := hq _ (by decide +kernel)
  have hall : (Cond.all (.arg 0) (.isInt (.elem (.arg 0) (.index 0)))).before args s = true := hq _ (by decide +kernel)
  obtain ⟨b, xs, hb, hx⟩ := State.ints_of_pre rfl harr hlen hall
  have hsm : xs.length < 2 ^ 31 := hx.choose_spec.2.2.2
  have hev : (Term.length (.arg 0)).eval args s none [] s = some (.int xs.length.toInt32) := hx.length_eval hb
  have hv := Cond.le_ints hev (show (Term.int 2560).eval args s none [] s = some (.int 2560) from rfl)
  have hd : xs.length.toInt32 ≤ 2560 := by
    simpa [Cond.before, Cond.holds, hv] using hle
  have hN : xs.length ≤ 2560 := (Int32.ofNat_le_ofNat hsm (by decide)).mp (show Int32.ofNat xs.length ≤ Int32.ofNat 2560 from hd)
  exact ⟨b, xs, Cond.one_arg hc (show args[0]? = some (.ref b) from hb), hx, hN, h⟩
theorem lw_comes (l : Launch) (hflags : l.flags = flags0) : Comes l x (Jvm.Cond.code x code maxLocals ret :: tables_1) room_1 (fun tb e args s => Calls_1 tb e args s ∧ rest_1 tb e args s ∧ Pre_1 tb e args s)
    (fun _ _ args s o t => lw_Q args s o t) := by
  intro p e ha hc hk s m args below hf hfit hheap happ hpre
  obtain ⟨b, xs, hP⟩ := lw_pre_spec hpre.2.2 hpre.2.1
  obtain ⟨k, o, h1, h2, h3, hQ⟩ := lw_walk l hflags b xs p e ha hc hk s m args below hf ((Spec.applies_iff_loose hf).mp happ).1 hP trivial
  exact ⟨k, o, h1, h2, h3, hQ⟩
theorem lw_frame {s t : State} {o : Outcome} {args : Array Value} (h : Framed s o t [] 600000 7302250) :
    Framed s o t (fieldLocs frame_1_writes args s ++ arrayLocs frame_1_arrays args s ++ staticLocs frame_1_statics s) 600000 7302250 := h
theorem lw_limb (L : Cond) (hL : ∀ (args : Array Value) (s t : State), L.after args s (.returned (some (.int 1))) t = true) :
    ArmFor flags0 classFile x code maxLocals ret World_1 tables_1 room_1 Calls_1 rest_1 Pre_1
      (fun tb e a s o t => postC L tb e a s o t ∧ Framed s o t (fieldLocs frame_1_writes a s ++ arrayLocs frame_1_arrays a s ++ staticLocs frame_1_statics s) 600000 7302250) := by
  intro l hflags _ _ p e ha hc hk s m args below hf hfit hheap happ hpre
  obtain ⟨k, o, h1, h2, h3, rfl, hF⟩ := lw_comes l hflags p e ha hc hk s m args below hf hfit hheap happ hpre
  exact ⟨k, _, h1, h2, h3, hL args s _, lw_frame hF⟩
theorem i_vc : Claimed_1_1 ∧ Claimed_1_2 := ⟨lw_limb limb_1_1 (fun args s t => by simp [limb_1_1, Cond.after, Cond.holds, Cond.value]), lw_limb limb_1_2 (fun args s t => Cond.after_iff.mpr (by
  first | (rw [show limb_1_2 = Cond.eq .result (.int 1) from rfl, Cond.eq_ints (x := 1) (y := 1) rfl rfl]; simp; done) | (simp [limb_1_2, Cond.value, Term.eval]; done)))⟩
