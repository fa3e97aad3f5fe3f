/-! ===== calls that only ask: the class's answer is the reference's ===== -/
theorem iv_in (v : Int32) {m : Nat} (hm : m < 2 ^ 31) : (∃ k, k ≤ m ∧ v = nI k ∧ M_X5_within v 0 (nI m) = some 1) ∨ M_X5_within v 0 (nI m) = some 0 := by
  unfold M_X5_within
  by_cases h0 : v < 0
  · right
    rw [if_pos h0]
  · obtain ⟨j, hj, rfl⟩ := nI_of h0
    rw [if_neg h0]
    by_cases h1 : m < j
    · right
      rw [if_pos (nI_lt h1 hj)]
    · left
      exact ⟨j, by omega, rfl, by rw [if_neg (nI_nlt (by omega) hm)]⟩
theorem iv_same : M_X6_in = M_X5_within := rfl
theorem iv_slot (v : Int32) : (∃ k, k < 3 ∧ v = nI k ∧ M_X5_isSlot v = some 1 ∧ M_X6_isSlot v = some 1) ∨ (M_X5_isSlot v = some 0 ∧ M_X6_isSlot v = some 0) := by
  unfold M_X5_isSlot M_X6_isSlot
  rw [iv_same, nt_n2]
  rcases iv_in v (m := 2) (by decide) with ⟨k, h1, h2, h3⟩ | h3
  · left
    rw [h3]
    exact ⟨k, by omega, h2, rfl, rfl⟩
  · right
    rw [h3]
    exact ⟨rfl, rfl⟩
def iv_S (n : Nat) (a : Nat → Nat) (mc : Int32) (nums st : Nat → Int32) : Prop := n < 8 ∧ 3 ≤ n ∧ mc = nI n ∧ st 0 = nI n ∧ ∀ k, k < 3 → a k < 2 ^ nt_np n ∧ nums k = nI (a k) ∧ st (1 + k) = nI (a k)
theorem iv_node {n : Nat} {st : Nat → Int32} (hn : n < 8) (hn3 : 3 ≤ n) (hs : st 0 = nI n) (v : Int32) : (∃ p, p < n ∧ v = nI p ∧ M_X5_isNode v (nI n) = some 1 ∧ M_X6_isNode v st = some 1) ∨ (M_X5_isNode v (nI n) = some 0 ∧ M_X6_isNode v st = some 0) := by
  unfold M_X5_isNode M_X6_isNode
  have e : ∀ {α : Type} (x : Option α), on_gd (on_ixb (0 : Int32) 4) x = x := fun x => ml_gd rfl
  rw [e, iv_same]
  show (∃ p, p < n ∧ v = nI p ∧ _ ∧ (M_X5_within v 0 (st 0 - (1 : Int32))).bind _ = _) ∨ (_ ∧ (M_X5_within v 0 (st 0 - (1 : Int32))).bind _ = _)
  rw [hs, nt_sub1 (by omega)]
  rcases iv_in v (m := n - 1) (by omega) with ⟨k, h1, h2, h3⟩ | h3
  · left
    rw [h3]
    exact ⟨k, by omega, h2, rfl, rfl⟩
  · right
    rw [h3]
    exact ⟨rfl, rfl⟩
theorem iv_10 : ¬ (1 : Int32) = 0 := by decide
section IVA
variable {n : Nat} {a : Nat → Nat} {mc : Int32} {nums st : Nat → Int32}
theorem st_of (hS : iv_S n a mc nums st) (v1 v2 nm : Int32) (nr : Nat → Int32) : ∃ r x1 x2, M_X5_of v1 v2 mc nums nm nr = some (r, x1, x2) ∧ M_X6_of v1 v2 st = some r := by
  obtain ⟨hn, hn3, rfl, hs, hk⟩ := hS
  unfold M_X5_of M_X6_of
  rcases iv_slot v1 with ⟨k, k3, rfl, e1, e2⟩ | ⟨e1, e2⟩
  · obtain ⟨ha, h1, h2⟩ := hk k k3
    obtain ⟨rows, l1, l2⟩ := nt_load (rows := nr) hn ha k3 h1
    rw [e1, e2, ml_b, ml_b, if_neg iv_10, if_neg iv_10, l1, ml_b, nt_netOf k3, ml_b, h2]
    by_cases c0 : v2 = 0
    · rw [if_pos c0, if_pos c0, ml_gi k3 (by decide), nI_clamp (by omega), h1]
      exact ⟨_, _, _, rfl, rfl⟩
    · rw [if_neg c0, if_neg c0]
      by_cases c1 : v2 = 1
      · rw [if_pos c1, if_pos c1, nt_joinedPairs hn l2, nt_size_num hn ha]
        exact ⟨_, _, _, rfl, rfl⟩
      · rw [if_neg c1, if_neg c1]
        by_cases c2 : v2 = 2
        · rw [if_pos c2, if_pos c2, nt_oddNet hn l2, nt_many hs, ml_b, ml_b, nt_mOddNet hn]
          exact ⟨_, _, _, rfl, rfl⟩
        · rw [if_neg c2, if_neg c2]
          by_cases c3 : v2 = 3
          · rw [if_pos c3, if_pos c3, nt_eachPair hn (by omega) l2, nt_mRegular hn (by omega) hs]
            exact ⟨_, _, _, rfl, rfl⟩
          · rw [if_neg c3, if_neg c3]
            by_cases c4 : v2 = 4
            · rw [if_pos c4, if_pos c4, nt_oddDegrees hn l2, nt_mOddNodes hn hs]
              exact ⟨_, _, _, rfl, rfl⟩
            · rw [if_neg c4, if_neg c4]
              exact ⟨_, _, _, rfl, rfl⟩
  · rw [e1, e2]
    exact ⟨_, _, _, rfl, rfl⟩
theorem st_node (hS : iv_S n a mc nums st) (v1 v2 v3 nm : Int32) (nr : Nat → Int32) : ∃ r x1 x2, M_X5_node v1 v2 v3 mc nums nm nr = some (r, x1, x2) ∧ M_X6_node v1 v2 v3 st = some r := by
  obtain ⟨hn, hn3, rfl, hs, hk⟩ := hS
  unfold M_X5_node M_X6_node
  rcases iv_slot v1 with ⟨k, k3, rfl, e1, e2⟩ | ⟨e1, e2⟩
  · rcases iv_node hn hn3 hs v2 with ⟨p, hp, rfl, f1, f2⟩ | ⟨f1, f2⟩
    · obtain ⟨ha, h1, h2⟩ := hk k k3
      obtain ⟨rows, l1, l2⟩ := nt_load (rows := nr) hn ha k3 h1
      rw [e1, e2, ml_b, ml_b, if_neg iv_10, if_neg iv_10, f1, f2, ml_b, ml_b, if_neg iv_10, if_neg iv_10, l1, ml_b, nt_netOf k3, ml_b, h2, nt_many hs]
      by_cases c0 : v3 = 0
      · rw [if_pos c0, if_pos c0, nt_degree hn l2 hp, ml_b, ml_b, nt_mdegree hn hp]
        exact ⟨_, _, _, rfl, rfl⟩
      · rw [if_neg c0, if_neg c0]
        by_cases c1 : v3 = 1
        · rw [if_pos c1, if_pos c1, nt_oddNode hn l2 hp, ml_b, ml_b, nt_mOddNode hn hp]
          exact ⟨_, _, _, rfl, rfl⟩
        · rw [if_neg c1, if_neg c1]
          obtain ⟨rows2, l3, l4⟩ := nt_leaveAlone hn hp l2
          by_cases c2 : v3 = 2
          · rw [if_pos c2, if_pos c2, l3, ml_b, nt_number hn l4, ml_b, ml_b, nt_alone hn ha hp]
            exact ⟨_, _, _, rfl, rfl⟩
          · rw [if_neg c2, if_neg c2]
            by_cases c3 : v3 = 3
            · obtain ⟨rows3, l5, l6⟩ := nt_drop hn hp l4
              rw [if_pos c3, if_pos c3, l3, ml_b, l5, ml_b]
              show ∃ r x1 x2, (M_X0_number (nI (n - 1)) rows3).bind _ = _ ∧ _
              rw [nt_number (by omega) l6, ml_b, ml_b, ml_b, nt_alone hn ha hp, ml_b, nt_mWithout hn hp, ml_b]
              refine ⟨_, _, _, rfl, ?_⟩
              refine congrArg (fun x => some (nI x)) (nt_enc_congr (fun u v hu hv => ?_))
              unfold nt_wo
              exact nt_E_enc hn (nt_sw_G (nt_adj_G n (a k)) _) _ _ (nt_up_lt (by omega)) (nt_up_lt hv)
            · rw [if_neg c3, if_neg c3]
              exact ⟨_, _, _, rfl, rfl⟩
    · rw [e1, e2, ml_b, ml_b, if_neg iv_10, if_neg iv_10, f1, f2]
      exact ⟨_, _, _, rfl, rfl⟩
  · rw [e1, e2]
    exact ⟨_, _, _, rfl, rfl⟩
theorem st_pair (hS : iv_S n a mc nums st) (v1 v2 v3 v4 nm : Int32) (nr : Nat → Int32) : ∃ r x1 x2, M_X5_pair v1 v2 v3 v4 mc nums nm nr = some (r, x1, x2) ∧ M_X6_pair v1 v2 v3 v4 st = some r := by
  obtain ⟨hn, hn3, rfl, hs, hk⟩ := hS
  unfold M_X5_pair M_X6_pair
  rcases iv_slot v1 with ⟨k, k3, rfl, e1, e2⟩ | ⟨e1, e2⟩
  · rcases iv_node hn hn3 hs v2 with ⟨p, hp, rfl, f1, f2⟩ | ⟨f1, f2⟩
    · rcases iv_node hn hn3 hs v3 with ⟨q, hq, rfl, g1, g2⟩ | ⟨g1, g2⟩
      · obtain ⟨ha, h1, h2⟩ := hk k k3
        obtain ⟨rows, l1, l2⟩ := nt_load (rows := nr) hn ha k3 h1
        rw [e1, e2, ml_b, ml_b, if_neg iv_10, if_neg iv_10, f1, f2, ml_b, ml_b, if_neg iv_10, if_neg iv_10, g1, g2, ml_b, ml_b, if_neg iv_10, if_neg iv_10]
        by_cases c : nI p = nI q
        · rw [if_pos c, if_pos c]
          exact ⟨_, _, _, rfl, rfl⟩
        · rw [if_neg c, if_neg c, l1, ml_b, nt_netOf k3, ml_b, h2, nt_many hs, iv_same]
          rcases iv_in v4 (m := 2) (by decide) with ⟨j, j1, rfl, j3⟩ | j3
          · rw [← nt_n2] at j3
            rw [j3, ml_b, if_neg iv_10]
            rcases (show j = 0 ∨ j = 1 ∨ j = 2 by omega) with rfl | rfl | rfl
            · rw [if_pos (show nI 0 = 0 from rfl), if_pos (show nI 0 = 0 from rfl), nt_joined hn l2 hp hq, ml_b, ml_b, nt_mjoined hn hp hq]
              exact ⟨_, _, _, rfl, rfl⟩
            · rw [if_neg (show ¬ nI 1 = 0 by decide), if_neg (show ¬ nI 1 = 0 by decide), if_pos (show nI 1 = 1 from rfl), if_pos (show nI 1 = 1 from rfl), nt_oddPair hn l2 hp hq, ml_b, ml_b, nt_mOddPair hn hp hq]
              exact ⟨_, _, _, rfl, rfl⟩
            · rw [if_neg (show ¬ nI 2 = 0 by decide), if_neg (show ¬ nI 2 = 0 by decide), if_neg (show ¬ nI 2 = 1 by decide), if_neg (show ¬ nI 2 = 1 by decide), if_pos (show nI 2 = 2 from rfl), nt_shared hn l2 hp hq, ml_b, ml_b, nt_common hn hp hq]
              exact ⟨_, _, _, rfl, rfl⟩
          · have d0 : ¬ v4 = 0 := fun e => by rw [e] at j3; revert j3; decide
            have d1 : ¬ v4 = 1 := fun e => by rw [e] at j3; revert j3; decide
            have d2 : ¬ v4 = 2 := fun e => by rw [e] at j3; revert j3; decide
            rw [← nt_n2] at j3
            rw [j3, ml_b, if_pos rfl, if_neg d0, if_neg d1, if_neg d2]
            exact ⟨_, _, _, rfl, rfl⟩
      · rw [e1, e2, ml_b, ml_b, if_neg iv_10, if_neg iv_10, f1, f2, ml_b, ml_b, if_neg iv_10, if_neg iv_10, g1, g2]
        exact ⟨_, _, _, rfl, rfl⟩
    · rw [e1, e2, ml_b, ml_b, if_neg iv_10, if_neg iv_10, f1, f2]
      exact ⟨_, _, _, rfl, rfl⟩
  · rw [e1, e2]
    exact ⟨_, _, _, rfl, rfl⟩
theorem st_fewest (hS : iv_S n a mc nums st) (v1 v2 nm : Int32) (nr : Nat → Int32) (sm : Int32) (sr : Nat → Int32) (z1 z2 z3 : Int32) : ∃ r x1 x2 x3 x4 y1 y2 y3, M_X5_fewest v1 v2 mc nums nm nr sm sr = some (r, x1, x2, x3, x4) ∧ M_X6_fewest v1 v2 z1 z2 z3 st = some (r, y1, y2, y3) := by
  obtain ⟨hn, hn3, rfl, hs, hk⟩ := hS
  unfold M_X5_fewest M_X6_fewest
  rcases iv_slot v1 with ⟨k, k3, rfl, e1, e2⟩ | ⟨e1, e2⟩
  · obtain ⟨ha, h1, h2⟩ := hk k k3
    obtain ⟨rows, l1, l2⟩ := nt_load (rows := nr) hn ha k3 h1
    obtain ⟨_, w1, m1, r1, rfl⟩ := nt_fewest hn hn3 (nt_adj_G n (a k)) l2 sm sr
    rw [e1, e2, ml_b, ml_b, if_neg iv_10, if_neg iv_10, iv_same, nt_n2]
    rcases iv_in v2 (m := 2) (by decide) with ⟨j, j1, rfl, j3⟩ | j3
    · rw [j3, ml_b, ml_b, if_neg iv_10, if_neg iv_10, l1, ml_b, nt_pairsOf n hn, ml_b, ml_let]
      show ∃ r x1 x2 x3 x4 y1 y2 y3, (on_loop (fun (s : Int32 × Int32 × Int32 × Int32 × Int32 × (Nat → Int32)) => B_X5_fewest_52 (nI n) (nI n) rows s.1 s.2.1 s.2.2.1 s.2.2.2.1 s.2.2.2.2.1 s.2.2.2.2.2) on_F (nI (nt_np n) + (1 : Int32), (0 : Int32), (0 : Int32), (0 : Int32), sm, sr)).bind _ = _ ∧ _
      rw [w1, ml_b, nt_mFewest hn hn3 ha k3 hs h2, ml_b]
      rcases (show j = 0 ∨ j = 1 ∨ j = 2 by omega) with rfl | rfl | rfl
      · rw [if_pos (show nI 0 = 0 from rfl), if_pos (show nI 0 = 0 from rfl)]
        exact ⟨_, _, _, _, _, _, _, _, rfl, rfl⟩
      · rw [if_neg (show ¬ nI 1 = 0 by decide), if_neg (show ¬ nI 1 = 0 by decide), if_pos (show nI 1 = 1 from rfl), if_pos (show nI 1 = 1 from rfl)]
        exact ⟨_, _, _, _, _, _, _, _, rfl, rfl⟩
      · rw [if_neg (show ¬ nI 2 = 0 by decide), if_neg (show ¬ nI 2 = 0 by decide), if_neg (show ¬ nI 2 = 1 by decide), if_neg (show ¬ nI 2 = 1 by decide)]
        exact ⟨_, _, _, _, _, _, _, _, rfl, rfl⟩
    · rw [j3]
      exact ⟨_, _, _, _, _, _, _, _, rfl, rfl⟩
  · rw [e1, e2]
    exact ⟨_, _, _, _, _, _, _, _, rfl, rfl⟩
theorem st_even (hS : iv_S n a mc nums st) (v1 v2 nm : Int32) (nr : Nat → Int32) (sm : Int32) (sr : Nat → Int32) (z1 z2 : Int32) : ∃ r x1 x2 x3 x4 y1 y2, M_X5_even v1 v2 mc nums nm nr sm sr = some (r, x1, x2, x3, x4) ∧ M_X6_even v1 v2 z1 z2 st = some (r, y1, y2) := by
  obtain ⟨hn, hn3, rfl, hs, hk⟩ := hS
  unfold M_X5_even M_X6_even
  rcases iv_slot v1 with ⟨k, k3, rfl, e1, e2⟩ | ⟨e1, e2⟩
  · obtain ⟨ha, h1, h2⟩ := hk k k3
    obtain ⟨rows, l1, l2⟩ := nt_load (rows := nr) hn ha k3 h1
    have hd : ∀ B rows, nt_Rep n B rows → M_X0_eachDegreeIs (-1) (nI n) rows = some (nt_i (decide (sp_od n B = 0))) := fun B rows h => nt_eachEven hn h
    obtain ⟨m1, r1, w1⟩ := nt_howMany (Pd := fun B => decide (sp_od n B = 0)) hn hn3 l2 hd false sm sr
    obtain ⟨m2, r2, w2⟩ := nt_leastSet (Pd := fun B => decide (sp_od n B = 0)) hn hn3 l2 hd sm sr
    have w1 : M_X5_howManyBy (-1) 0 (nI n) rows sm sr = some (nI (fb_ct (fun t => decide (sp_od n (nt_sw (nt_adj n (a k)) (2 * t)) = 0)) (2 ^ (n - 1))), m1, r1) := by
      refine Eq.trans w1 ?_
      rw [fb_ct_cong (q := fun t => decide (sp_od n (nt_sw (nt_adj n (a k)) (2 * t)) = 0)) (fun t _ => by simp)]
    rw [e1, e2, ml_b, ml_b, if_neg iv_10, if_neg iv_10, iv_same, nt_n1]
    rcases iv_in v2 (m := 1) (by decide) with ⟨j, j1, rfl, j3⟩ | j3
    · rw [j3, ml_b, ml_b, if_neg (show ¬ (1 : Int32) = 0 by decide), if_neg (show ¬ (1 : Int32) = 0 by decide), l1, ml_b]
      unfold M_X6_beginFound
      rw [ml_b, nt_mEven hn hn3 ha k3 hs h2, ml_b]
      rcases (show j = 0 ∨ j = 1 by omega) with rfl | rfl
      · rw [if_pos (show nI 0 = 0 from rfl), if_pos (show nI 0 = 0 from rfl)]
        show ∃ r x1 x2 x3 x4 y1 y2, (M_X5_howManyBy (-1) 0 (nI n) rows sm sr).bind _ = _ ∧ _
        rw [w1]
        exact ⟨_, _, _, _, _, _, _, rfl, rfl⟩
      · rw [if_neg (show ¬ nI 1 = 0 by decide), if_neg (show ¬ nI 1 = 0 by decide)]
        show ∃ r x1 x2 x3 x4 y1 y2, (M_X5_leastSetBy (-1) (nI n) rows sm sr).bind _ = _ ∧ _
        rw [w2]
        exact ⟨_, _, _, _, _, _, _, rfl, rfl⟩
    · rw [j3]
      exact ⟨_, _, _, _, _, _, _, rfl, rfl⟩
  · rw [e1, e2]
    exact ⟨_, _, _, _, _, _, _, rfl, rfl⟩
theorem st_by (hS : iv_S n a mc nums st) (v1 v2 v3 nm : Int32) (nr : Nat → Int32) (sm : Int32) (sr : Nat → Int32) (z1 z2 : Int32) : ∃ r x1 x2 x3 x4 y1 y2, M_X5_by v1 v2 v3 mc nums nm nr sm sr = some (r, x1, x2, x3, x4) ∧ M_X6_by v1 v2 v3 z1 z2 st = some (r, y1, y2) := by
  obtain ⟨hn, hn3, rfl, hs, hk⟩ := hS
  unfold M_X5_by M_X6_by
  have s6 : (6 : Int32) = nI 6 := by decide
  rcases iv_slot v1 with ⟨k, k3, rfl, e1, e2⟩ | ⟨e1, e2⟩
  · obtain ⟨ha, h1, h2⟩ := hk k k3
    obtain ⟨rows, l1, l2⟩ := nt_load (rows := nr) hn ha k3 h1
    rw [e1, e2, ml_b, ml_b, if_neg iv_10, if_neg iv_10, iv_same, s6]
    rcases iv_in v2 (m := 6) (by decide) with ⟨c, c1, rfl, c3⟩ | c3
    · have hd : ∀ B rows, nt_Rep n B rows → M_X0_eachDegreeIs (nI c) (nI n) rows = some (nt_i (sp_by n B c)) := fun B rows h => nt_eachDegree hn (by omega) h
      obtain ⟨m1, r1, w1⟩ := nt_howMany (Pd := fun B => sp_by n B c) hn hn3 l2 hd false sm sr
      obtain ⟨m3, r3, w3⟩ := nt_howMany (Pd := fun B => sp_by n B c) hn hn3 l2 hd true sm sr
      obtain ⟨m2, r2, w2⟩ := nt_leastSet (Pd := fun B => sp_by n B c) hn hn3 l2 hd sm sr
      have w1 : M_X5_howManyBy (nI c) 0 (nI n) rows sm sr = some (nI (fb_ct (sp_pk n c (nt_adj n (a k))) (2 ^ (n - 1))), m1, r1) := by
        refine Eq.trans w1 ?_
        rw [fb_ct_cong (q := sp_pk n c (nt_adj n (a k))) (fun t _ => by simp [sp_pk])]
      have w3 : M_X5_howManyBy (nI c) 1 (nI n) rows sm sr = some (nI (fb_ct (sp_ps n c (nt_adj n (a k))) (2 ^ (n - 1))), m3, r3) := by
        refine Eq.trans w3 ?_
        rw [fb_ct_cong (q := sp_ps n c (nt_adj n (a k))) (fun t _ => by simp [sp_ps])]
      have w2 : M_X5_leastSetBy (nI c) (nI n) rows sm sr = some (sp_fi (sp_pk n c (nt_adj n (a k))) (2 ^ (n - 1)), m2, r2) := w2
      rw [c3, ml_b, ml_b, if_neg iv_10, if_neg iv_10, nt_n2]
      rcases iv_in v3 (m := 2) (by decide) with ⟨j, j1, rfl, j3⟩ | j3
      · rw [j3, ml_b, ml_b, if_neg iv_10, if_neg iv_10, l1, ml_b]
        unfold M_X6_beginFound
        rw [ml_b, nt_mBy hn hn3 ha k3 (by omega) hs h2, ml_b]
        rcases (show j = 0 ∨ j = 1 ∨ j = 2 by omega) with rfl | rfl | rfl
        · rw [if_neg (show ¬ nI 0 = 1 by decide), if_neg (show ¬ nI 0 = nI 2 by decide), if_pos (show nI 0 = 0 from rfl)]
          show ∃ r x1 x2 x3 x4 y1 y2, (M_X5_howManyBy (nI c) 0 (nI n) rows sm sr).bind _ = _ ∧ _
          rw [w1]
          exact ⟨_, _, _, _, _, _, _, rfl, rfl⟩
        · rw [if_pos (show nI 1 = 1 from rfl), if_neg (show ¬ nI 1 = 0 by decide), if_pos (show nI 1 = 1 from rfl)]
          show ∃ r x1 x2 x3 x4 y1 y2, (M_X5_leastSetBy (nI c) (nI n) rows sm sr).bind _ = _ ∧ _
          rw [w2]
          exact ⟨_, _, _, _, _, _, _, rfl, rfl⟩
        · rw [if_neg (show ¬ nI 2 = 1 by decide), if_pos (show nI 2 = nI 2 from rfl), if_neg (show ¬ nI 2 = 0 by decide), if_neg (show ¬ nI 2 = 1 by decide)]
          show ∃ r x1 x2 x3 x4 y1 y2, (M_X5_howManyBy (nI c) 1 (nI n) rows sm sr).bind _ = _ ∧ _
          rw [w3]
          exact ⟨_, _, _, _, _, _, _, rfl, rfl⟩
      · rw [j3]
        exact ⟨_, _, _, _, _, _, _, rfl, rfl⟩
    · rw [c3]
      exact ⟨_, _, _, _, _, _, _, rfl, rfl⟩
  · rw [e1, e2]
    exact ⟨_, _, _, _, _, _, _, rfl, rfl⟩
end IVA
