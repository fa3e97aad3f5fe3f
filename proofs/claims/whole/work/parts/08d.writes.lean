/-! ===== calls that change what slots hold ===== -/
theorem iv_inLH (v : Int32) {lo hi : Nat} (hl : lo < 2 ^ 31) (hh : hi < 2 ^ 31) : (∃ k, lo ≤ k ∧ k ≤ hi ∧ v = nI k ∧ M_X5_within v (nI lo) (nI hi) = some 1) ∨ ((∀ k, lo ≤ k → k ≤ hi → ¬ v = nI k) ∧ M_X5_within v (nI lo) (nI hi) = some 0) := by
  unfold M_X5_within
  by_cases h0 : v < nI lo
  · right
    refine ⟨fun k h1 h2 e => ?_, by rw [if_pos h0]⟩
    rw [e] at h0
    exact absurd h0 (nI_nlt h1 (by omega))
  · have hz : ¬ v < 0 := fun z => by
      have h1 := (fa_lt v 0).mp z
      refine h0 ((fa_lt _ _).mpr ?_)
      rw [nI_toInt hl]
      have : (0 : Int32).toInt = 0 := rfl
      omega
    obtain ⟨j, hj, rfl⟩ := nI_of hz
    rw [if_neg h0]
    have hlj : lo ≤ j := by
      rcases Nat.lt_or_ge j lo with c | c
      · exact absurd (nI_lt c hl) h0
      · exact c
    by_cases h1 : hi < j
    · right
      refine ⟨fun k h2 h3 e => ?_, by rw [if_pos (nI_lt h1 hj)]⟩
      have := (nI_eq hj (by omega)).mp e
      omega
    · left
      exact ⟨j, hlj, by omega, rfl, by rw [if_neg (nI_nlt (by omega) hh)]⟩
theorem iv_S_congr {n : Nat} {a : Nat → Nat} {mc mc' : Int32} {nums st nums' st' : Nat → Int32} (h : iv_S n a mc nums st) (h0 : mc' = mc) (h1 : ∀ k, k < 3 → nums' k = nums k) (h2 : ∀ j, j < 4 → st' j = st j) : iv_S n a mc' nums' st' := by
  obtain ⟨hn, hn3, hm, hs, hk⟩ := h
  exact ⟨hn, hn3, h0.trans hm, (h2 0 (by omega)).trans hs, fun k k3 => ⟨(hk k k3).1, (h1 k k3).trans (hk k k3).2.1, (h2 (1 + k) (by omega)).trans (hk k k3).2.2⟩⟩
theorem iv_S_put {n : Nat} {a : Nat → Nat} {mc : Int32} {nums st : Nat → Int32} (h : iv_S n a mc nums st) {k x : Nat} (hk3 : k < 3) (hx : x < 2 ^ nt_np n) : iv_S n (fun j => if j = k then x else a j) mc (upd nums k (nI x)) (upd st (1 + k) (nI x)) := by
  obtain ⟨hn, hn3, hm, hs, hk⟩ := h
  refine ⟨hn, hn3, hm, (if_neg (show ¬ 0 = 1 + k by omega)).trans hs, fun j j3 => ?_⟩
  show (if j = k then x else a j) < _ ∧ _ = nI (if j = k then x else a j) ∧ _ = nI (if j = k then x else a j)
  by_cases e : j = k
  · rw [if_pos e]
    exact ⟨hx, if_pos e, if_pos (by omega)⟩
  · rw [if_neg e]
    exact ⟨(hk j j3).1, (if_neg e).trans (hk j j3).2.1, (if_neg (show ¬ 1 + j = 1 + k by omega)).trans (hk j j3).2.2⟩
theorem iv_1k (k : Nat) : (1 : Int32) + nI k = nI (1 + k) := by rw [nt_n1, nI_add]
section IVE
variable {n : Nat} {a : Nat → Nat} {mc : Int32} {nums st : Nat → Int32}
theorem nt_hold {k : Nat} (hk : k < 3) (x : Int32) : M_X6_hold (nI k) x st = some (x, upd st (1 + k) x) := by
  unfold M_X6_hold
  rw [iv_1k, ml_gi (by omega) (by omega), nI_clamp (by omega)]
theorem st_set (hS : iv_S n a mc nums st) (v1 v2 : Int32) : ∃ r nums' st', M_X5_set v1 v2 mc nums = some (r, nums') ∧ M_X6_set v1 v2 st = some (r, st') ∧ ∃ a', iv_S n a' mc nums' st' := by
  have hS0 := hS
  obtain ⟨hn, hn3, rfl, hs, hk⟩ := hS
  unfold M_X5_set M_X6_set
  rcases iv_slot v1 with ⟨k, k3, rfl, e1, e2⟩ | ⟨e1, e2⟩
  · obtain ⟨ha, h1, h2⟩ := hk k k3
    have hp := Nat.two_pow_pos (nt_np n)
    have hp2 : 2 ^ nt_np n ≤ 2 ^ 21 := Nat.pow_le_pow_right (by decide) (by have := nt_np_lt n hn; omega)
    rw [e1, e2, ml_b, ml_b, if_neg iv_10, if_neg iv_10, nt_pairsOf n hn, ml_b, nt_pw21 n hn, nt_many hs, ml_b, nt_mpairs n hn, ml_b, nt_pw21 n hn, iv_same]
    rcases iv_in v2 (m := 2 ^ nt_np n - 1) (by omega) with ⟨x, x1, rfl, x3⟩ | x3
    · rw [x3, ml_b, ml_b, if_neg iv_10, if_neg iv_10, ml_gi k3 (by omega), ml_let, ml_gi k3 (by omega), nt_netOf k3, ml_b, iv_1k, ml_gi (by omega) (by omega), nI_clamp (by omega), nI_clamp (by omega), h1, h2]
      exact ⟨_, _, _, rfl, rfl, _, iv_S_put hS0 k3 (by omega)⟩
    · rw [x3]
      exact ⟨_, _, _, rfl, rfl, _, hS0⟩
  · rw [e1, e2]
    exact ⟨_, _, _, rfl, rfl, _, hS0⟩
theorem st_turn (hS : iv_S n a mc nums st) (v1 v2 v3 nm : Int32) (nr : Nat → Int32) : ∃ r nums' x1 x2 st', M_X5_turn v1 v2 v3 mc nums nm nr = some (r, nums', x1, x2) ∧ M_X6_turn v1 v2 v3 st = some (r, st') ∧ ∃ a', iv_S n a' mc nums' st' := by
  have hS0 := hS
  obtain ⟨hn, hn3, rfl, hs, hk⟩ := hS
  unfold M_X5_turn M_X6_turn
  rcases iv_slot v1 with ⟨k, k3, rfl, e1, e2⟩ | ⟨e1, e2⟩
  · rcases iv_slot v2 with ⟨j, j3, rfl, f1, f2⟩ | ⟨f1, f2⟩
    · obtain ⟨ha, h1, h2⟩ := hk j j3
      have hp := Nat.two_pow_pos n
      have hp2 : 2 ^ n ≤ 2 ^ 7 := Nat.pow_le_pow_right (by decide) (by omega)
      rw [e1, e2, ml_b, ml_b, if_neg iv_10, if_neg iv_10, f1, f2, ml_b, ml_b, if_neg iv_10, if_neg iv_10, nt_many hs, ml_b, ml_b, nt_all n hn, iv_same]
      rcases iv_in v3 (m := 2 ^ n - 1) (by omega) with ⟨s, s1, rfl, s3⟩ | s3
      · obtain ⟨ra, l1, l2⟩ := nt_load (rows := nr) hn ha j3 h1
        obtain ⟨rb, l3, l4⟩ := nt_switchBy (s := s) hn (by omega) l2
        rw [s3, ml_b, ml_b, if_neg iv_10, if_neg iv_10, l1, ml_b]
        show ∃ r nums' x1 x2 st', (M_X0_switchBy (nI s) (nI n) ra).bind _ = _ ∧ _
        rw [l3, ml_b]
        show ∃ r nums' x1 x2 st', (M_X0_number (nI n) rb).bind _ = _ ∧ _
        rw [nt_number hn l4, ml_b, ml_gi k3 (by omega), ml_gi k3 (by omega), nI_clamp (by omega), nt_netOf j3, ml_b, h2, nt_switched hn ha (by omega), ml_b, nt_hold k3, ml_b]
        refine ⟨_, _, _, _, _, rfl, ?_, _, iv_S_put hS0 k3 (nt_enc_lt hn _)⟩
        rw [show upd nums k (nI (nt_enc n (nt_sw (nt_adj n (a j)) s))) k = nI (nt_enc n (nt_sw (nt_adj n (a j)) s)) from if_pos rfl]
      · rw [s3]
        exact ⟨_, _, _, _, _, rfl, rfl, _, hS0⟩
    · rw [e1, e2, ml_b, ml_b, if_neg iv_10, if_neg iv_10, f1, f2]
      exact ⟨_, _, _, _, _, rfl, rfl, _, hS0⟩
  · rw [e1, e2]
    exact ⟨_, _, _, _, _, rfl, rfl, _, hS0⟩
theorem nt_addor {x y : Nat} (h : x &&& y = 0) : nI x + nI y = nI (x ||| y) := by
  rw [← fa_or]
  apply Int32.toBitVec_inj.mp
  rw [Int32.toBitVec_add, Int32.toBitVec_or]
  apply BitVec.add_eq_or_of_and_eq_zero
  have h1 := fa_and x y
  rw [h] at h1
  exact congrArg Int32.toBitVec h1
theorem nt_joinw {n x p q : Nat} (hn : n < 8) (hx : x < 2 ^ nt_np n) (hp : p < n) (hq : q < n) (hne : p ≠ q) (b : Bool) : (nI x &&& (nI (2 ^ (nt_np n - 1 - nt_ix n (min p q) (max p q))) ^^^ (-1 : Int32))) + (nt_i b * nI (2 ^ (nt_np n - 1 - nt_ix n (min p q) (max p q)))) = nI (nt_enc n (nt_set (nt_adj n x) p q b)) := by
  have hlt : min p q < max p q := by omega
  have hmx : max p q < n := by omega
  have hpw := nt_pw hn hlt hmx
  have hx21 := nt_num_lt hn hx
  have hbits : ∀ u v, u < v → v < n → Nat.testBit (2 ^ (nt_np n - 1 - nt_ix n (min p q) (max p q))) (nt_np n - 1 - nt_ix n u v) = (decide (u = min p q) && decide (v = max p q)) := fun u v hu hv => nt_bitne hn hlt hmx hu hv
  have hset : ∀ u v, u < v → ((u = p ∧ v = q) ∨ (u = q ∧ v = p) ↔ (u = min p q ∧ v = max p q)) := fun u v hu => by omega
  generalize hw : 2 ^ (nt_np n - 1 - nt_ix n (min p q) (max p q)) = w at hpw hbits
  have h32 : (-1 : Int32) = nI (2 ^ 32 - 1) := by decide
  have hy0 : ∀ j, (x &&& (w ^^^ (2 ^ 32 - 1))).testBit j = (x.testBit j && !w.testBit j) := fun j => by
    rw [Nat.testBit_and, Nat.testBit_xor, Nat.testBit_two_pow_sub_one]
    by_cases hj : j < 32
    · rw [decide_eq_true hj, Bool.xor_true]
    · rw [Nat.testBit_lt_two_pow (Nat.lt_of_lt_of_le hx21 (Nat.pow_le_pow_right (by decide) (by omega)))]
      rfl
  have hdis : (x &&& (w ^^^ (2 ^ 32 - 1))) &&& w = 0 := Nat.eq_of_testBit_eq (fun j => by
    rw [Nat.testBit_and, hy0, Nat.zero_testBit]
    cases x.testBit j <;> cases w.testBit j <;> rfl)
  have hyl : x &&& (w ^^^ (2 ^ 32 - 1)) < 2 ^ nt_np n := Nat.lt_of_le_of_lt Nat.and_le_left hx
  rw [h32, fb_xorI, fa_and]
  cases b with
  | false =>
    rw [nt_i0, Int32.zero_mul, Int32.add_zero]
    refine congrArg nI (nt_num_enc hn hyl (fun u v hu hv => ?_))
    rw [nt_adj_lt hu, hy0, hbits u v hu hv]
    unfold nt_set
    by_cases e : (u = p ∧ v = q) ∨ (u = q ∧ v = p)
    · have e2 := (hset u v hu).mp e
      rw [if_pos e, decide_eq_true e2.1, decide_eq_true e2.2]
      simp
    · have e2 : (decide (u = min p q) && decide (v = max p q)) = false := by
        by_cases c1 : u = min p q
        · have : ¬ v = max p q := fun c2 => e ((hset u v hu).mpr ⟨c1, c2⟩)
          simp [this]
        · simp [c1]
      rw [if_neg e, e2, nt_adj_lt hu]
      simp
  | true =>
    rw [nt_i1, Int32.one_mul, nt_addor hdis]
    refine congrArg nI (nt_num_enc hn (Nat.or_lt_two_pow hyl hpw) (fun u v hu hv => ?_))
    rw [nt_adj_lt hu, Nat.testBit_or, hy0, hbits u v hu hv]
    unfold nt_set
    by_cases e : (u = p ∧ v = q) ∨ (u = q ∧ v = p)
    · have e2 := (hset u v hu).mp e
      rw [if_pos e, decide_eq_true e2.1, decide_eq_true e2.2]
      simp
    · have e2 : (decide (u = min p q) && decide (v = max p q)) = false := by
        by_cases c1 : u = min p q
        · have : ¬ v = max p q := fun c2 => e ((hset u v hu).mpr ⟨c1, c2⟩)
          simp [this]
        · simp [c1]
      rw [if_neg e, e2, nt_adj_lt hu]
      simp
theorem nt_set_G {A : Nat → Nat → Bool} (h : nt_G A) {p q : Nat} (hne : p ≠ q) (b : Bool) : nt_G (nt_set A p q b) := by
  refine ⟨fun u v => ?_, fun u => ?_⟩
  · unfold nt_set
    by_cases e : (u = p ∧ v = q) ∨ (u = q ∧ v = p)
    · rw [if_pos e, if_pos (by omega)]
    · rw [if_neg e, if_neg (by omega), h.1]
  · unfold nt_set
    rw [if_neg (by omega), h.2]
theorem st_join (hS : iv_S n a mc nums st) (v1 v2 v3 v4 nm : Int32) (nr : Nat → Int32) : ∃ r nums' x1 x2 st', M_X5_join v1 v2 v3 v4 mc nums nm nr = some (r, nums', x1, x2) ∧ M_X6_join v1 v2 v3 v4 st = some (r, st') ∧ ∃ a', iv_S n a' mc nums' st' := by
  have hS0 := hS
  obtain ⟨hn, hn3, rfl, hs, hk⟩ := hS
  unfold M_X5_join M_X6_join
  rcases iv_slot v1 with ⟨k, k3, rfl, e1, e2⟩ | ⟨e1, e2⟩
  · rcases iv_node hn hn3 hs v2 with ⟨p, hp, rfl, f1, f2⟩ | ⟨f1, f2⟩
    · rcases iv_node hn hn3 hs v3 with ⟨q, hq, rfl, g1, g2⟩ | ⟨g1, g2⟩
      · obtain ⟨ha, h1, h2⟩ := hk k k3
        rw [e1, e2, ml_b, ml_b, if_neg iv_10, if_neg iv_10, f1, f2, ml_b, ml_b, if_neg iv_10, if_neg iv_10, g1, g2, ml_b, ml_b, if_neg iv_10, if_neg iv_10, iv_same]
        by_cases c : nI p = nI q
        · rw [if_pos c, if_pos c]
          exact ⟨_, _, _, _, _, rfl, rfl, _, hS0⟩
        · have hne : p ≠ q := fun e => c (by rw [e])
          rw [if_neg c, if_neg c]
          rcases iv_in v4 (m := 1) (by decide) with ⟨j, j1, rfl, j3⟩ | j3
          · obtain ⟨b, hb⟩ : ∃ b, nI j = nt_i b := by
              rcases (show j = 0 ∨ j = 1 by omega) with rfl | rfl
              · exact ⟨false, rfl⟩
              · exact ⟨true, rfl⟩
            obtain ⟨ra, l1, l2⟩ := nt_load (rows := nr) hn ha k3 h1
            obtain ⟨rb, l3, l4⟩ := nt_connect hn l2 hp hq hne b
            have hG := nt_set_G (nt_adj_G n (a k)) hne b
            have hel := nt_enc_lt hn (nt_set (nt_adj n (a k)) p q b)
            have hE := nt_E_enc hn hG
            rw [← nt_n1] at j3
            rw [j3, ml_b, ml_b, if_neg iv_10, if_neg iv_10, l1, ml_b, nt_many hs, ml_b, nt_valueOf n hn p hp q hq hne, ml_b, nt_netOf k3, ml_b, h2, iv_1k, ml_gi (show 1 + k < 4 by omega) (by omega), nI_clamp (show 1 + k < 2 ^ 31 by omega), hb, nt_joinw hn ha hp hq hne b, nt_netOf k3, ml_b, show upd st (1 + k) (nI (nt_enc n (nt_set (nt_adj n (a k)) p q b))) (1 + k) = nI (nt_enc n (nt_set (nt_adj n (a k)) p q b)) from if_pos rfl, nt_size_enc hn hG, ml_b]
            have hS2 := iv_S_put hS0 k3 hel
            have fin : ∀ (v : Int32), M_X0_connect (nI p) (nI q) v ra = some rb → ((M_X0_connect (nI p) (nI q) v ra).bind (fun q_16 => ((M_X0_number (nI n) q_16).bind (fun q_17 => (on_gd (on_ixb (nI k) 3) ((M_X0_joinedPairs (nI n) q_16).bind (fun q_19 => (some (q_19, upd nums (Int32.toNatClampNeg (nI k)) q_17, nI n, q_16))))))))) = some (nI (sp_jp n (nt_set (nt_adj n (a k)) p q b)), upd nums k (nI (nt_enc n (nt_set (nt_adj n (a k)) p q b))), nI n, rb) := fun v hv => by
              rw [hv, ml_b, nt_number hn l4, ml_b, ml_gi k3 (by omega), nt_joinedPairs hn l4, ml_b, nI_clamp (by omega)]
            cases b with
            | false =>
              rw [if_neg (show ¬ nt_i false = 1 by decide)]
              exact ⟨_, _, _, _, _, fin 0 l3, rfl, _, hS2⟩
            | true =>
              rw [if_pos (show nt_i true = 1 from rfl)]
              exact ⟨_, _, _, _, _, fin 1 l3, rfl, _, hS2⟩
          · rw [← nt_n1] at j3
            rw [j3]
            exact ⟨_, _, _, _, _, rfl, rfl, _, hS0⟩
      · rw [e1, e2, ml_b, ml_b, if_neg iv_10, if_neg iv_10, f1, f2, ml_b, ml_b, if_neg iv_10, if_neg iv_10, g1, g2]
        exact ⟨_, _, _, _, _, rfl, rfl, _, hS0⟩
    · rw [e1, e2, ml_b, ml_b, if_neg iv_10, if_neg iv_10, f1, f2]
      exact ⟨_, _, _, _, _, rfl, rfl, _, hS0⟩
  · rw [e1, e2]
    exact ⟨_, _, _, _, _, rfl, rfl, _, hS0⟩
theorem nt_mnodes (m : Nat) : ∃ st', on_loop (fun (s : Int32 × (Nat → Int32)) => B_X6_nodes_27 s.1 s.2) on_F ((0 : Int32), upd st 0 (nI m)) = some st' ∧ st' 0 = nI m ∧ ∀ k, k < 3 → st' (1 + k) = nI 0 := by
  refine ml_invF (fun i s => ∃ st', s = (nI i, st') ∧ st' 0 = nI m ∧ ∀ k, k < i → st' (1 + k) = nI 0) _ 3 (by omega) (fun i s hi hs => ?_) (fun s hs => ?_) ⟨upd st 0 (nI m), rfl, if_pos rfl, fun k hk => absurd hk (Nat.not_lt_zero k)⟩
  · obtain ⟨st1, rfl, h1, h2⟩ := hs
    left
    refine ⟨(nI (i + 1), upd st1 (1 + i) 0), ?_, _, rfl, (if_neg (by omega)).trans h1, fun k hk => ?_⟩
    · show B_X6_nodes_27 (nI i) st1 = _
      unfold B_X6_nodes_27
      rw [nt_n3, if_neg (nI_ge hi (by omega)), iv_1k, ml_gi (by omega) (by omega), nI_clamp (by omega), ml_let, nI_1]
    · by_cases e : k = i
      · rw [e]
        exact if_pos rfl
      · exact (if_neg (by omega)).trans (h2 k (by omega))
  · obtain ⟨st1, rfl, h1, h2⟩ := hs
    refine ⟨st1, ?_, h1, h2⟩
    show B_X6_nodes_27 (nI 3) st1 = _
    unfold B_X6_nodes_27
    rw [nt_n3, if_pos (nI_le (Nat.le_refl _) (by omega))]
theorem st_nodes (hS : iv_S n a mc nums st) (v1 : Int32) : ∃ r mc' nums' st', M_X5_nodes v1 mc nums = some (r, mc', nums') ∧ M_X6_nodes v1 st = some (r, st') ∧ ∃ n' a', iv_S n' a' mc' nums' st' := by
  have hS0 := hS
  obtain ⟨hn, hn3, rfl, hs, hk⟩ := hS
  unfold M_X5_nodes M_X6_nodes
  rw [iv_same, nt_n3, show (7 : Int32) = nI 7 by decide]
  rcases iv_inLH v1 (lo := 3) (hi := 7) (by decide) (by decide) with ⟨m, m1, m2, rfl, m3⟩ | ⟨_, m3⟩
  · obtain ⟨st', h1, h2, h3⟩ := nt_mnodes (st := st) m
    have hcl : M_X3_clear (nI m) nums = some (nI m, fa_fill (fun _ => 0) nums 3) := by
      unfold M_X3_clear
      rw [nt_fill (by omega)]
      rfl
    rw [m3, ml_b, ml_b, if_neg iv_10, if_neg iv_10, hcl, ml_b, nt_many hs, ml_b, ml_gd (show on_ixb 0 4 = true from rfl)]
    show ∃ r mc' nums' st', _ ∧ (on_loop (fun (s : Int32 × (Nat → Int32)) => B_X6_nodes_27 s.1 s.2) on_F ((0 : Int32), upd st 0 (nI m))).bind _ = _ ∧ _
    rw [h1]
    refine ⟨_, _, _, _, rfl, rfl, m, fun _ => 0, by omega, m1, rfl, h2, fun k k3 => ⟨Nat.two_pow_pos _, ?_, h3 k k3⟩⟩
    exact (fa_fill_in k3 : fa_fill (fun _ => (0 : Int32)) nums 3 k = _)
  · rw [m3]
    exact ⟨_, _, _, _, rfl, rfl, _, _, hS0⟩
/-! images -/
theorem nt_mimage {k : Nat} (hk : k < 2) (imgs : Nat → Int32) : ∃ imgs', on_loop (fun (s : Int32 × (Nat → Int32)) => B_X6_image_14 (nI k) st s.1 s.2) on_F ((0 : Int32), imgs) = some imgs' ∧ (∀ j, j < 4 → imgs' (4 * k + j) = st j) ∧ ∀ i, (i < 4 * k ∨ 4 * k + 4 ≤ i) → imgs' i = imgs i := by
  refine ml_invF (fun i s => ∃ imgs', s = (nI i, imgs') ∧ (∀ j, j < i → imgs' (4 * k + j) = st j) ∧ ∀ i, (i < 4 * k ∨ 4 * k + 4 ≤ i) → imgs' i = imgs i) _ 4 (by omega) (fun i s hi hs => ?_) (fun s hs => ?_) ⟨imgs, rfl, fun j hj => absurd hj (Nat.not_lt_zero j), fun _ _ => rfl⟩
  · obtain ⟨im, rfl, h1, h2⟩ := hs
    left
    refine ⟨(nI (i + 1), upd im (4 * k + i) (st i)), ?_, _, rfl, fun j hj => ?_, fun j hj => (if_neg (by omega)).trans (h2 j hj)⟩
    · show B_X6_image_14 (nI k) st (nI i) im = _
      unfold B_X6_image_14
      rw [show (4 : Int32) = nI 4 by decide, if_neg (nI_ge hi (by omega)), ml_gi hi (by omega), nI_mul, nI_add, ml_gi (show 4 * k + i < 8 by omega) (by omega), nI_clamp (by omega), nI_clamp (by omega), ml_let, nI_1]
    · by_cases e : j = i
      · rw [e]
        exact if_pos rfl
      · exact (if_neg (by omega)).trans (h1 j (by omega))
  · obtain ⟨im, rfl, h1, h2⟩ := hs
    refine ⟨im, ?_, h1, h2⟩
    show B_X6_image_14 (nI k) st (nI 4) im = _
    unfold B_X6_image_14
    rw [show (4 : Int32) = nI 4 by decide, if_pos (nI_le (Nat.le_refl _) (by omega))]
theorem nt_mrestore {k : Nat} (hk : k < 2) (imgs : Nat → Int32) : ∃ st', on_loop (fun (s : Int32 × (Nat → Int32)) => B_X6_restore_26 (nI k) imgs s.1 s.2) on_F ((0 : Int32), st) = some st' ∧ ∀ j, j < 4 → st' j = imgs (4 * k + j) := by
  refine ml_invF (fun i s => ∃ st', s = (nI i, st') ∧ ∀ j, j < i → st' j = imgs (4 * k + j)) _ 4 (by omega) (fun i s hi hs => ?_) (fun s hs => ?_) ⟨st, rfl, fun j hj => absurd hj (Nat.not_lt_zero j)⟩
  · obtain ⟨s1, rfl, h1⟩ := hs
    left
    refine ⟨(nI (i + 1), upd s1 i (imgs (4 * k + i))), ?_, _, rfl, fun j hj => ?_⟩
    · show B_X6_restore_26 (nI k) imgs (nI i) s1 = _
      unfold B_X6_restore_26
      rw [show (4 : Int32) = nI 4 by decide, if_neg (nI_ge hi (by omega)), nI_mul, nI_add, ml_gi (show 4 * k + i < 8 by omega) (by omega), ml_gi hi (by omega), nI_clamp (by omega), nI_clamp (by omega), ml_let, nI_1]
    · by_cases e : j = i
      · rw [e]
        exact if_pos rfl
      · exact (if_neg e).trans (h1 j (by omega))
  · obtain ⟨s1, rfl, h1⟩ := hs
    refine ⟨s1, ?_, h1⟩
    show B_X6_restore_26 (nI k) imgs (nI 4) s1 = _
    unfold B_X6_restore_26
    rw [show (4 : Int32) = nI 4 by decide, if_pos (nI_le (Nat.le_refl _) (by omega))]
theorem iv_cpy (f g : Nat → Int32) {k : Nat} (hk : k < 3) : va_cpy f g 0 0 3 k = f k := by
  unfold va_cpy
  rw [if_pos (by omega)]
  congr 1
  omega
theorem iv_I_same {k : Nat} {im : Int32} {inn imgs kept imgs' kept' : Nat → Int32} (h : iv_I k im inn imgs kept) (h1 : ∀ j, j < 4 → imgs' (4 * k + j) = imgs (4 * k + j)) (h2 : kept' k = kept k) : iv_I k im inn imgs' kept' := by
  rcases h with ⟨a1, a2⟩ | ⟨a1, n, a, a2⟩
  · exact Or.inl ⟨h2.trans a1, a2⟩
  · exact Or.inr ⟨h2.trans a1, n, a, iv_S_congr a2 rfl (fun _ _ => rfl) h1⟩
theorem st_image (hS : iv_S n a mc nums st) {im0 im1 : Int32} {in0 in1 imgs kept : Nat → Int32} (h0 : iv_I 0 im0 in0 imgs kept) (h1 : iv_I 1 im1 in1 imgs kept) (v1 : Int32) : ∃ r im0' in0' im1' in1' imgs' kept', M_X5_image v1 mc nums im0 in0 im1 in1 = some (r, im0', in0', im1', in1') ∧ M_X6_image v1 st imgs kept = some (r, imgs', kept') ∧ iv_I 0 im0' in0' imgs' kept' ∧ iv_I 1 im1' in1' imgs' kept' := by
  unfold M_X5_image M_X6_image
  rw [iv_same]
  rcases iv_in v1 (m := 1) (by decide) with ⟨k, k1, rfl, k3⟩ | k3
  · rw [← nt_n1] at k3
    rcases (show k = 0 ∨ k = 1 by omega) with rfl | rfl
    · obtain ⟨im, i1, i2, i3⟩ := nt_mimage (st := st) (k := 0) (by omega) imgs
      rw [k3, ml_b, ml_b, if_neg iv_10, if_neg iv_10, ml_gi (by omega) (by omega), if_pos (show nI 0 = 0 from rfl), i1, ml_b, ml_gi (by omega) (by omega), nI_clamp (by omega)]
      refine ⟨_, _, _, _, _, _, _, rfl, rfl, Or.inr ⟨rfl, n, a, iv_S_congr hS rfl (fun k hk => iv_cpy _ _ hk) i2⟩, iv_I_same h1 (fun j hj => i3 _ (by omega)) rfl⟩
    · obtain ⟨im, i1, i2, i3⟩ := nt_mimage (st := st) (k := 1) (by omega) imgs
      rw [k3, ml_b, ml_b, if_neg iv_10, if_neg iv_10, ml_gi (by omega) (by omega), if_neg (show ¬ nI 1 = 0 by decide), i1, ml_b, ml_gi (by omega) (by omega), nI_clamp (by omega)]
      refine ⟨_, _, _, _, _, _, _, rfl, rfl, iv_I_same h0 (fun j hj => i3 _ (by omega)) rfl, Or.inr ⟨rfl, n, a, iv_S_congr hS rfl (fun k hk => iv_cpy _ _ hk) i2⟩⟩
  · rw [← nt_n1] at k3
    rw [k3]
    exact ⟨_, _, _, _, _, _, _, rfl, rfl, h0, h1⟩
theorem st_restore (hS : iv_S n a mc nums st) {im0 im1 : Int32} {in0 in1 imgs kept : Nat → Int32} (h0 : iv_I 0 im0 in0 imgs kept) (h1 : iv_I 1 im1 in1 imgs kept) (v1 : Int32) : ∃ r mc' nums' st', M_X5_restore v1 mc nums im0 in0 im1 in1 = some (r, mc', nums') ∧ M_X6_restore v1 st imgs kept = some (r, st') ∧ ∃ n' a', iv_S n' a' mc' nums' st' := by
  unfold M_X5_restore M_X6_restore M_X3_isUnused
  rw [iv_same]
  have hk0 := iv_I0 h0
  have hk1 := iv_I0 h1
  rcases iv_in v1 (m := 1) (by decide) with ⟨k, k1, rfl, k3⟩ | k3
  · rw [← nt_n1] at k3
    rcases (show k = 0 ∨ k = 1 by omega) with rfl | rfl
    · rw [k3, ml_b, ml_b, if_neg iv_10, if_neg iv_10, ml_gi (by omega) (by omega), if_pos (show nI 0 = 0 from rfl), ml_gi (by omega) (by omega), nI_clamp (by omega)]
      rcases h0 with ⟨a1, a2⟩ | ⟨a1, n', a', a2⟩
      · rw [if_pos a2, if_pos a1]
        exact ⟨_, _, _, _, rfl, rfl, _, _, hS⟩
      · obtain ⟨st', s1, s2⟩ := nt_mrestore (st := st) (k := 0) (by omega) imgs
        have c : ¬ kept 0 = 0 := by rw [a1]; decide
        rw [if_neg (fun z => c (hk0.mpr z)), if_neg c, ml_b, if_pos rfl, ml_gi (by omega) (by omega), if_pos (show nI 0 = 0 from rfl), s1]
        exact ⟨_, _, _, _, rfl, rfl, n', a', iv_S_congr a2 rfl (fun k hk => iv_cpy _ _ hk) s2⟩
    · rw [k3, ml_b, ml_b, if_neg iv_10, if_neg iv_10, ml_gi (by omega) (by omega), if_neg (show ¬ nI 1 = 0 by decide), ml_gi (by omega) (by omega), nI_clamp (by omega)]
      rcases h1 with ⟨a1, a2⟩ | ⟨a1, n', a', a2⟩
      · rw [if_pos a2, if_pos a1]
        exact ⟨_, _, _, _, rfl, rfl, _, _, hS⟩
      · obtain ⟨st', s1, s2⟩ := nt_mrestore (st := st) (k := 1) (by omega) imgs
        have c : ¬ kept 1 = 0 := by rw [a1]; decide
        rw [if_neg (fun z => c (hk1.mpr z)), if_neg c, ml_b, if_pos rfl, ml_gi (by omega) (by omega), if_neg (show ¬ nI 1 = 0 by decide), s1]
        exact ⟨_, _, _, _, rfl, rfl, n', a', iv_S_congr a2 rfl (fun k hk => iv_cpy _ _ hk) s2⟩
  · rw [← nt_n1] at k3
    rw [k3]
    exact ⟨_, _, _, _, rfl, rfl, _, _, hS⟩
end IVE
