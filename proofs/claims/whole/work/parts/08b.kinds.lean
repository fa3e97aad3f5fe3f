/-! ===== comparing and counting ===== -/
theorem nt_adj_xor (n a b p q : Nat) : nt_adj n (a ^^^ b) p q = (nt_adj n a p q ^^ nt_adj n b p q) := by
  unfold nt_adj
  by_cases e : p = q
  · rw [if_pos e, if_pos e, if_pos e]; rfl
  · rw [if_neg e, if_neg e, if_neg e, Nat.testBit_xor]
theorem nt_mk_xor {n : Nat} (f g : Nat → Bool) : nt_mk n f ^^^ nt_mk n g = nt_mk n (fun j => f j ^^ g j) := by
  refine Nat.eq_of_testBit_eq (fun j => ?_)
  rw [Nat.testBit_xor, nt_mk_bit, nt_mk_bit, nt_mk_bit]
  cases decide (j < n) <;> simp
def sp_bs (n : Nat) (A B : Nat → Nat → Bool) : Nat := nt_mk n (fun j => A 0 j ^^ B 0 j)
theorem sp_bs_E {n : Nat} {A B : Nat → Nat → Bool} (hn0 : 0 < n) : nt_E n (nt_sw A (sp_bs n A B)) B ↔ nt_E n (pm_al n A 0) (pm_al n B 0) := by
  constructor
  · intro h
    exact (pm_al_sw _ hn0).symm.trans (pm_al_E h hn0)
  · intro h u v hu hv
    have h1 := h u v hu hv
    rw [pm_al_at hu hv, pm_al_at hu hv] at h1
    unfold nt_sw sp_bs
    rw [nt_mk_bit, nt_mk_bit, decide_eq_true hu, decide_eq_true hv]
    revert h1
    cases A u v <;> cases A 0 u <;> cases A 0 v <;> cases B u v <;> cases B 0 u <;> cases B 0 v <;> simp
def sp_sb (n a b : Nat) : Int32 := if nt_enc n (pm_al n (nt_adj n a) 0) = nt_enc n (pm_al n (nt_adj n b) 0) then nI (sp_bs n (nt_adj n a) (nt_adj n b)) else -6
theorem sp_sb_if {n a b : Nat} (hn : n < 8) (hn0 : 0 < n) (hb : b < 2 ^ nt_np n) : (nt_enc n (nt_sw (nt_adj n a) (sp_bs n (nt_adj n a) (nt_adj n b))) = b) ↔ nt_enc n (pm_al n (nt_adj n a) 0) = nt_enc n (pm_al n (nt_adj n b) 0) := by
  have e : b = nt_enc n (nt_adj n b) := (nt_enc_adj hn hb).symm
  rw [pm_arr_enc hn (pm_al_G (nt_adj_G n a) 0) (pm_al_G (nt_adj_G n b) 0), ← sp_bs_E hn0, ← pm_arr_enc hn (nt_sw_G (nt_adj_G n a) _) (nt_adj_G n b), ← e]
theorem nt_setBetween {n a b : Nat} {st : Nat → Int32} (hn : n < 8) (hn3 : 3 ≤ n) (ha : a < 2 ^ nt_np n) (hb : b < 2 ^ nt_np n) (hs : st 0 = nI n) : M_X6_setBetween (nI a) (nI b) st = some (sp_sb n a b) := by
  have e : nt_mk n (nt_adj n (a ^^^ b) 0) = sp_bs n (nt_adj n a) (nt_adj n b) := nt_mk_congr (fun j _ => nt_adj_xor n a b 0 j)
  have h0 : M_X6_neighbours (nI n) (nI (a ^^^ b)) (0 : Int32) = some (nI (sp_bs n (nt_adj n a) (nt_adj n b))) := by rw [← e]; exact nt_neigh (p := 0) hn (by omega)
  have hbl := nt_num_lt hn hb
  have hel := nt_num_lt hn (nt_enc_lt hn (nt_sw (nt_adj n a) (sp_bs n (nt_adj n a) (nt_adj n b))))
  unfold M_X6_setBetween
  rw [nt_many hs, ml_b, fb_xorI, h0, ml_b, ml_b, nt_switched hn ha (show sp_bs n (nt_adj n a) (nt_adj n b) < 2 ^ n from nt_mk_lt n _), ml_b]
  unfold sp_sb
  by_cases c : nt_enc n (nt_sw (nt_adj n a) (sp_bs n (nt_adj n a) (nt_adj n b))) = b
  · rw [if_pos (by rw [c]), if_pos ((sp_sb_if hn (by omega) hb).mp c)]
  · rw [if_neg (fun z => c ((nI_eq (by omega) (by omega)).mp z)), if_neg (fun z => c ((sp_sb_if hn (by omega) hb).mpr z))]
theorem nt_bringing {n a b i j : Nat} {nums : Nat → Int32} (hn : n < 8) (hn3 : 3 ≤ n) (ha : a < 2 ^ nt_np n) (hb : b < 2 ^ nt_np n) (hi : i < 3) (hj : j < 3) (h1 : nums i = nI a) (h2 : nums j = nI b) (nr sr : Nat → Int32) : ∃ x1 x2 x3 x4, M_X5_bringingSet (nI i) (nI j) (nI n) nums nr sr = some (sp_sb n a b, x1, x2, x3, x4) := by
  obtain ⟨ra, l1, l2⟩ := nt_load (rows := nr) hn ha hi h1
  obtain ⟨rb, l3, l4⟩ := nt_load (rows := sr) hn hb hj h2
  have hs : nt_mk n (nt_adj n a 0) ^^^ nt_mk n (nt_adj n b 0) = sp_bs n (nt_adj n a) (nt_adj n b) := nt_mk_xor _ _
  obtain ⟨rc, l5, l6⟩ := nt_switchBy hn (nt_mk_lt n (fun j => nt_adj n a 0 j ^^ nt_adj n b 0 j)) l2
  have hbl := nt_num_lt hn hb
  have hel := nt_num_lt hn (nt_enc_lt hn (nt_sw (nt_adj n a) (sp_bs n (nt_adj n a) (nt_adj n b))))
  unfold M_X5_bringingSet
  rw [l1, ml_b, l3, ml_b, ml_gd (show on_ixb 0 7 = true from rfl), ml_gd (show on_ixb 0 7 = true from rfl)]
  show ∃ x1 x2 x3 x4, on_let (ra 0 ^^^ rb 0) _ = _
  rw [l2 0 (by omega), l4 0 (by omega), fb_xorI, hs, ml_let]
  show ∃ x1 x2 x3 x4, (M_X0_switchBy (nI (nt_mk n (fun j => nt_adj n a 0 j ^^ nt_adj n b 0 j))) (nI n) ra).bind _ = _
  rw [l5, ml_b, nt_number hn l6, ml_b]
  show ∃ x1 x2 x3 x4, (M_X0_number (nI n) rb).bind _ = _
  rw [nt_number hn l4, ml_b, nt_enc_adj hn hb]
  unfold sp_sb
  show ∃ x1 x2 x3 x4, (if nI (nt_enc n (nt_sw (nt_adj n a) (sp_bs n (nt_adj n a) (nt_adj n b)))) = nI b then _ else _) = _
  by_cases c : nt_enc n (nt_sw (nt_adj n a) (sp_bs n (nt_adj n a) (nt_adj n b))) = b
  · rw [if_pos (by rw [c]), if_pos ((sp_sb_if hn (by omega) hb).mp c)]
    exact ⟨_, _, _, _, rfl⟩
  · rw [if_neg (fun z => c ((nI_eq (by omega) (by omega)).mp z)), if_neg (fun z => c ((sp_sb_if hn (by omega) hb).mpr z))]
    exact ⟨_, _, _, _, rfl⟩
theorem sp_sb_neg {n a b : Nat} (hn : n < 8) : (sp_sb n a b = -6 ↔ ¬ nt_enc n (pm_al n (nt_adj n a) 0) = nt_enc n (pm_al n (nt_adj n b) 0)) ∧ (sp_sb n a b < 0 ↔ ¬ nt_enc n (pm_al n (nt_adj n a) 0) = nt_enc n (pm_al n (nt_adj n b) 0)) := by
  unfold sp_sb
  have h := nt_mk_128 hn (fun j => nt_adj n a 0 j ^^ nt_adj n b 0 j)
  have h7 : ∀ y, y < 128 → ¬ nI y = (-6 : Int32) ∧ ¬ nI y < (0 : Int32) := by decide +kernel
  by_cases c : nt_enc n (pm_al n (nt_adj n a) 0) = nt_enc n (pm_al n (nt_adj n b) 0)
  · rw [if_pos c]
    exact ⟨⟨fun z => absurd z (h7 _ h).1, fun z => absurd c z⟩, ⟨fun z => absurd z (h7 _ h).2, fun z => absurd c z⟩⟩
  · rw [if_neg c]
    exact ⟨⟨fun _ => c, fun _ => rfl⟩, ⟨fun _ => c, fun _ => by decide⟩⟩
theorem nt_kindOfSlot {n a k : Nat} {nums : Nat → Int32} (hn : n < 8) (hn3 : 3 ≤ n) (ha : a < 2 ^ nt_np n) (hk : k < 3) (h1 : nums k = nI a) (nr at0 : Nat → Int32) : ∃ x x1 x2, M_X5_kindOfSlot (nI k) (nI n) nums nr at0 = some (nI x, nI n, x1, x2) ∧ pm_least n (nt_adj n a) x := by
  obtain ⟨ra, l1, l2⟩ := nt_load (rows := nr) hn ha hk h1
  obtain ⟨x, at1, r1, h2, h3⟩ := nt_kindOfClass (at0 := at0) hn hn3 (nt_adj_G n a) l2
  refine ⟨x, r1, at1, ?_, h3⟩
  unfold M_X5_kindOfSlot
  rw [l1, ml_b]
  show (M_X2_kindOfClass at0 (nI n) ra).bind _ = _
  rw [h2]
  rfl
section IVB
variable {n : Nat} {a : Nat → Nat} {mc : Int32} {nums st : Nat → Int32}
theorem st_compare (hS : iv_S n a mc nums st) (v1 v2 v3 nm : Int32) (nr : Nat → Int32) (sm : Int32) (sr at0 row used : Nat → Int32) : ∃ r x1 x2 x3 x4 x5 y1 y2, M_X5_compare v1 v2 v3 mc nums nm nr sm sr at0 = some (r, x1, x2, x3, x4, x5) ∧ M_X6_compare v1 v2 v3 st row used = some (r, y1, y2) := by
  obtain ⟨hn, hn3, rfl, hs, hk⟩ := hS
  unfold M_X5_compare M_X6_compare
  rcases iv_slot v1 with ⟨i, i3, rfl, e1, e2⟩ | ⟨e1, e2⟩
  · rcases iv_slot v2 with ⟨j, j3, rfl, f1, f2⟩ | ⟨f1, f2⟩
    · obtain ⟨ha, h1, h2⟩ := hk i i3
      obtain ⟨hb, h3, h4⟩ := hk j j3
      rw [e1, e2, ml_b, ml_b, if_neg iv_10, if_neg iv_10, f1, f2, ml_b, ml_b, if_neg iv_10, if_neg iv_10, nt_netOf i3, ml_b, h2, nt_netOf j3, ml_b, h4, nt_setBetween hn hn3 ha hb hs]
      obtain ⟨x1, x2, x3, x4, hbr⟩ := nt_bringing hn hn3 ha hb i3 j3 h1 h3 nr sr
      have hneg := sp_sb_neg (a := a i) (b := a j) hn
      by_cases c0 : v3 = 0
      · rw [if_pos c0, if_pos c0, hbr, ml_b, ml_b]
        by_cases c : nt_enc n (pm_al n (nt_adj n (a i)) 0) = nt_enc n (pm_al n (nt_adj n (a j)) 0)
        · rw [if_neg (show ¬ (sp_sb n (a i) (a j), x1, x2, x3, x4).1 = -6 from fun z => hneg.1.mp z c), if_neg (fun z => hneg.2.mp z c)]
          exact ⟨_, _, _, _, _, _, _, _, rfl, rfl⟩
        · rw [if_pos (show (sp_sb n (a i) (a j), x1, x2, x3, x4).1 = -6 from hneg.1.mpr c), if_pos (hneg.2.mpr c)]
          exact ⟨_, _, _, _, _, _, _, _, rfl, rfl⟩
      · rw [if_neg c0, if_neg c0]
        by_cases c1 : v3 = 1
        · rw [if_pos c1, if_pos c1, hbr]
          exact ⟨_, _, _, _, _, _, _, _, rfl, rfl⟩
        · rw [if_neg c1, if_neg c1]
          by_cases c2 : v3 = 2
          · obtain ⟨ra, l1, l2⟩ := nt_load (rows := nr) hn ha i3 h1
            obtain ⟨rb, l3, l4⟩ := nt_load (rows := sr) hn hb j3 h3
            obtain ⟨b, at1, q1, q2⟩ := nt_brings (at0 := at0) hn (nt_adj_G n (a i)) (nt_adj_G n (a j)) l2 l4
            obtain ⟨row1, us1, q3⟩ := nt_comesTo (a := a i) hn hn3 hb row used
            have q4 := pm_cn_pos hn hb (nt_adj_G n (a i))
            have hle : pm_cn n (nt_adj n (a i)) (a j) ≤ 5040 := pm_n_le_f hn hn3 _
            rw [if_pos c2, if_pos c2, l1, ml_b, l3, ml_b]
            show ∃ r x1 x2 x3 x4 x5 y1 y2, (M_X2_brings at0 (nI n) ra (nI n) rb).bind _ = _ ∧ _
            rw [q1, ml_b, nt_many hs, ml_b, q3, ml_b]
            cases b with
            | false =>
              have : ¬ 0 < pm_cn n (nt_adj n (a i)) (a j) := fun z => absurd (q2.mpr (q4.mp z)) (by decide)
              rw [if_pos (show (nt_i false, at1).1 = 0 from rfl), if_pos (show (nI (pm_cn n (nt_adj n (a i)) (a j)), row1, us1).1 ≤ 0 by rw [show pm_cn n (nt_adj n (a i)) (a j) = 0 by omega]; exact (show nI 0 ≤ (0 : Int32) by decide))]
              exact ⟨_, _, _, _, _, _, _, _, rfl, rfl⟩
            | true =>
              have : 0 < pm_cn n (nt_adj n (a i)) (a j) := q4.mpr (q2.mp rfl)
              rw [if_neg (show ¬ (nt_i true, at1).1 = 0 from iv_10), if_neg (show ¬ (nI (pm_cn n (nt_adj n (a i)) (a j)), row1, us1).1 ≤ 0 by rw [nt_n0]; exact nI_ge this (by omega))]
              exact ⟨_, _, _, _, _, _, _, _, rfl, rfl⟩
          · rw [if_neg c2, if_neg c2]
            by_cases c3 : v3 = 3
            · obtain ⟨x, xr, xa, q1, q2⟩ := nt_kindOfSlot hn hn3 ha i3 h1 nr at0
              obtain ⟨y, yr, ya, q3, q4⟩ := nt_kindOfSlot hn hn3 hb j3 h3 xr xa
              obtain ⟨row1, us1, q5⟩ := nt_comesToC (a := a i) hn hn3 hb row used
              have q6 := pm_kinds hn (by omega) (nt_adj_G n (a i)) (nt_adj_G n (a j)) q2 q4
              have hle : pm_cc n (nt_adj n (a i)) (nt_adj n (a j)) ≤ 5040 := pm_n_le_f hn hn3 _
              have hx := nt_num_lt hn (pm_least_lt hn q2)
              have hy := nt_num_lt hn (pm_least_lt hn q4)
              rw [if_pos c3, if_pos c3, q1, ml_b]
              show ∃ r x1 x2 x3 x4 x5 y1 y2, (M_X5_kindOfSlot (nI j) (nI n) nums xr xa).bind _ = _ ∧ _
              rw [q3, ml_b, nt_many hs, ml_b, q5, ml_b]
              by_cases c : x = y
              · rw [if_pos (show (nI x, nI n, xr, xa).1 = (nI y, nI n, yr, ya).1 by rw [c]), if_neg (show ¬ (nI (pm_cc n (nt_adj n (a i)) (nt_adj n (a j))), row1, us1).1 ≤ 0 by rw [nt_n0]; exact nI_ge (q6.mp c) (by omega))]
                exact ⟨_, _, _, _, _, _, _, _, rfl, rfl⟩
              · have : ¬ 0 < pm_cc n (nt_adj n (a i)) (nt_adj n (a j)) := fun z => c (q6.mpr z)
                rw [if_neg (show ¬ (nI x, nI n, xr, xa).1 = (nI y, nI n, yr, ya).1 from fun z => c ((nI_eq (by omega) (by omega)).mp z)), if_pos (show (nI (pm_cc n (nt_adj n (a i)) (nt_adj n (a j))), row1, us1).1 ≤ 0 by rw [show pm_cc n (nt_adj n (a i)) (nt_adj n (a j)) = 0 by omega]; exact (show nI 0 ≤ (0 : Int32) by decide))]
                exact ⟨_, _, _, _, _, _, _, _, rfl, rfl⟩
            · rw [if_neg c3, if_neg c3]
              exact ⟨_, _, _, _, _, _, _, _, rfl, rfl⟩
    · rw [e1, e2, ml_b, ml_b, if_neg iv_10, if_neg iv_10, f1, f2]
      exact ⟨_, _, _, _, _, _, _, _, rfl, rfl⟩
  · rw [e1, e2]
    exact ⟨_, _, _, _, _, _, _, _, rfl, rfl⟩
theorem st_kind (hS : iv_S n a mc nums st) (v1 v2 nm : Int32) (nr : Nat → Int32) (sm : Int32) (sr at0 row used : Nat → Int32) : ∃ r x1 x2 x3 x4 x5 y1 y2, M_X5_kind v1 v2 mc nums nm nr sm sr at0 = some (r, x1, x2, x3, x4, x5) ∧ M_X6_kind v1 v2 st row used = some (r, y1, y2) := by
  obtain ⟨hn, hn3, rfl, hs, hk⟩ := hS
  unfold M_X5_kind M_X6_kind
  rcases iv_slot v1 with ⟨i, i3, rfl, e1, e2⟩ | ⟨e1, e2⟩
  · obtain ⟨ha, h1, h2⟩ := hk i i3
    rw [e1, e2, ml_b, ml_b, if_neg iv_10, if_neg iv_10, nt_netOf i3, ml_b, h2, nt_many hs]
    by_cases c0 : v2 = 0
    · obtain ⟨x, xr, xa, q1, q2⟩ := nt_kindOfSlot hn hn3 ha i3 h1 nr at0
      obtain ⟨y, row1, us1, q3, q4⟩ := nt_kindOf hn hn3 ha row used
      rw [if_pos c0, if_pos c0, q1, ml_b, ml_b, q3, pm_least_one q2 q4]
      exact ⟨_, _, _, _, _, _, _, _, rfl, rfl⟩
    · rw [if_neg c0, if_neg c0]
      obtain ⟨ra, l1, l2⟩ := nt_load (rows := nr) hn ha i3 h1
      by_cases c1 : v2 = 1
      · obtain ⟨at1, r1, r2, q1⟩ := nt_keepersOfClass (at0 := at0) (rows2 := sr) (m2 := sm) hn hn3 (nt_adj_G n (a i)) l2
        obtain ⟨row1, us1, q5⟩ := nt_comesToC (a := a i) hn hn3 ha row used
        rw [if_pos c1, if_pos c1, l1, ml_b]
        show ∃ r x1 x2 x3 x4 x5 y1 y2, (M_X2_keepersOfClass at0 (nI n) ra sm sr).bind _ = _ ∧ _
        rw [q1, ml_b, ml_b, q5]
        exact ⟨_, _, _, _, _, _, _, _, rfl, rfl⟩
      · rw [if_neg c1, if_neg c1]
        by_cases c2 : v2 = 2
        · obtain ⟨at1, q1⟩ := nt_keepersOfNet (k := 0) (at0 := at0) hn (nt_adj_G n (a i)) l2 (by omega)
          obtain ⟨row1, us1, q5⟩ := nt_comesTo (a := a i) hn hn3 ha row used
          rw [if_pos c2, if_pos c2, l1, ml_b]
          show ∃ r x1 x2 x3 x4 x5 y1 y2, (M_X2_keepersOfNet (nI 0) at0 (nI n) ra).bind _ = _ ∧ _
          rw [q1, ml_b, ml_b, q5, pm_cn_self hn ha]
          exact ⟨_, _, _, _, _, _, _, _, rfl, rfl⟩
        · rw [if_neg c2, if_neg c2]
          exact ⟨_, _, _, _, _, _, _, _, rfl, rfl⟩
  · rw [e1, e2]
    exact ⟨_, _, _, _, _, _, _, _, rfl, rfl⟩
theorem st_card (hS : iv_S n a mc nums st) (v1 v2 nm : Int32) (nr at0 row used : Nat → Int32) : ∃ r x1 x2 x3 y1 y2, M_X5_card v1 v2 mc nums nm nr at0 = some (r, x1, x2, x3) ∧ M_X6_card v1 v2 st row used = some (r, y1, y2) := by
  obtain ⟨hn, hn3, rfl, hs, hk⟩ := hS
  unfold M_X5_card M_X6_card
  rcases iv_slot v1 with ⟨i, i3, rfl, e1, e2⟩ | ⟨e1, e2⟩
  · rcases iv_node hn hn3 hs v2 with ⟨p, hp, rfl, f1, f2⟩ | ⟨f1, f2⟩
    · obtain ⟨ha, h1, h2⟩ := hk i i3
      rw [e1, e2, ml_b, ml_b, if_neg iv_10, if_neg iv_10, f1, f2, ml_b, ml_b, if_neg iv_10, if_neg iv_10, nt_many hs, ml_b, ml_b, ml_b]
      by_cases c : n = 3
      · rw [if_neg (by rw [c]; decide), if_pos (by rw [c]; rfl)]
        exact ⟨_, _, _, _, _, _, rfl, rfl⟩
      · obtain ⟨ra, l1, l2⟩ := nt_load (rows := nr) hn ha i3 h1
        obtain ⟨rb, l3, l4⟩ := nt_drop hn hp l2
        obtain ⟨x, at1, rc, q1, q2⟩ := nt_kindOfClass (at0 := at0) (show n - 1 < 8 by omega) (by omega) (nt_wo_G (nt_adj_G n (a i)) p) l4
        have hlt := nt_enc_lt (show n - 1 < 8 by omega) (nt_wo (nt_adj n (a i)) p)
        obtain ⟨y, row1, us1, q3, q4⟩ := nt_kindOf (show n - 1 < 8 by omega) (by omega) hlt row used
        have q5 := pm_least_E (by omega) (nt_E_enc (show n - 1 < 8 by omega) (nt_wo_G (nt_adj_G n (a i)) p)) q4
        rw [if_pos (by rw [nt_n3]; exact nI_lt (by omega) (by omega)), if_neg (by rw [nt_n3]; exact fun z => c ((nI_eq (by omega) (by omega)).mp z)), l1, ml_b]
        show ∃ r x1 x2 x3 y1 y2, (M_X0_drop (nI p) (nI n) ra).bind _ = _ ∧ _
        rw [l3, ml_b]
        show ∃ r x1 x2 x3 y1 y2, (M_X2_kindOfClass at0 (nI (n - 1)) rb).bind _ = _ ∧ _
        rw [q1, ml_b, nt_netOf i3, ml_b, h2, nt_mWithout hn hp, ml_b, nt_sub1 (by omega), q3, pm_least_one q2 q5]
        exact ⟨_, _, _, _, _, _, rfl, rfl⟩
    · rw [e1, e2, ml_b, ml_b, if_neg iv_10, if_neg iv_10, f1, f2]
      exact ⟨_, _, _, _, _, _, rfl, rfl⟩
  · rw [e1, e2]
    exact ⟨_, _, _, _, _, _, rfl, rfl⟩
end IVB
