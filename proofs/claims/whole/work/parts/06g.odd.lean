/-! ===== odd triples, counted on both sides ===== -/
def sp_of (A : Nat → Nat → Bool) (p q r : Nat) : Bool := !decide (r = p) && (!decide (r = q) && (A p q ^^ (A p r ^^ A q r)))
def sp_op (n : Nat) (A : Nat → Nat → Bool) (p q : Nat) : Nat := fb_ct (sp_of A p q) n
def sp_on (n : Nat) (A : Nat → Nat → Bool) (p : Nat) : Nat := fb_sm (fun q => if q = p then 0 else sp_op n A p q) n / 2
def sp_ot (n : Nat) (A : Nat → Nat → Bool) : Nat := fb_sm (fun p => sp_on n A p) n / 3
theorem sp_op_le (n : Nat) (A : Nat → Nat → Bool) (p q : Nat) : sp_op n A p q ≤ n := fb_ct_le _ n
theorem sp_sum_le {n m : Nat} (hn : n < 8) (A : Nat → Nat → Bool) (p : Nat) (hm : m ≤ n) : fb_sm (fun q => if q = p then 0 else sp_op n A p q) m < 100 := by
  have h := fb_sm_bound (f := fun q => if q = p then 0 else sp_op n A p q) (c := 7) (n := m) (fun k _ => by
    show (if k = p then 0 else sp_op n A p k) ≤ 7
    have := sp_op_le n A p k
    split <;> omega)
  omega
theorem sp_on_le {n : Nat} (hn : n < 8) (A : Nat → Nat → Bool) (p : Nat) : sp_on n A p < 50 := by
  have := sp_sum_le hn A p (Nat.le_refl n)
  unfold sp_on
  omega
theorem sp_ots_le {n m : Nat} (hn : n < 8) (A : Nat → Nat → Bool) (hm : m ≤ n) : fb_sm (fun p => sp_on n A p) m < 400 := by
  have h := fb_sm_bound (f := fun p => sp_on n A p) (c := 50) (n := m) (fun k _ => by have := sp_on_le hn A k; omega)
  omega
theorem nt_and_not {y z : Nat} (hy : y < 128) (hz : z < 128) : nI y &&& (nI z ^^^ (-1 : Int32)) = nI (y &&& (127 ^^^ z)) := nt_not z hz y hy
theorem nt_2or {p q : Nat} (hp : p < 7) (hq : q < 7) : 2 ^ p ||| 2 ^ q < 128 := Nat.or_lt_two_pow (n := 7) (Nat.pow_lt_pow_right (by decide) hp) (Nat.pow_lt_pow_right (by decide) hq)
theorem nt_oddPair {n : Nat} {A : Nat → Nat → Bool} {rows : Nat → Int32} (hn : n < 8) (h : nt_Rep n A rows) {p q : Nat} (hp : p < n) (hq : q < n) : M_X0_oddTriplesAtPair (nI p) (nI q) (nI n) rows = some (nI (sp_op n A p q)) := by
  have kp := nt_mk_128 hn (A p)
  have kq := nt_mk_128 hn (A q)
  have kx : nt_mk n (A p) ^^^ nt_mk n (A q) < 128 := Nat.xor_lt_two_pow (n := 7) kp kq
  have kn : 2 ^ n - 1 < 128 := nt_128 hn (by have := Nat.two_pow_pos n; omega)
  have kz := nt_2or (show p < 7 by omega) (show q < 7 by omega)
  have hall : M_X0_allNodes (nI n) = some (nI (2 ^ n - 1)) := by
    unfold M_X0_allNodes
    rw [nt_all n hn]
  unfold M_X0_oddTriplesAtPair
  rw [ml_gi (by omega) (by omega), ml_gi (by omega) (by omega), ml_let, nI_clamp (by omega), nI_clamp (by omega), nt_joined hn h hp hq, ml_b, h p hp, h q hq, fb_xorI, nt_sh1 p (by omega), nt_sh1 q (by omega), fa_or, hall]
  cases hb : A p q with
  | true =>
    rw [if_pos nt_i1, ml_let, ml_b, Int32.and_comm (nI (nt_mk n (A p) ^^^ nt_mk n (A q)) ^^^ -1), nt_and_not kn kx, nt_and_not (Nat.lt_of_le_of_lt Nat.and_le_left kn) kz]
    rw [nt_pop (n := n) (f := sp_of A p q) hn (Nat.lt_of_le_of_lt Nat.and_le_left (Nat.lt_of_le_of_lt Nat.and_le_left kn)) (fun j hj => ?_)]
    · rfl
    · rw [Nat.testBit_and, Nat.testBit_and, Nat.testBit_two_pow_sub_one, Nat.testBit_xor, Nat.testBit_xor, Nat.testBit_xor, nt_127, nt_mk_bit, nt_mk_bit, Nat.testBit_or, Nat.testBit_two_pow, Nat.testBit_two_pow]
      unfold sp_of
      rw [hb]
      by_cases h1 : j < n
      · by_cases h2 : p = j
        · subst h2
          simp [h1, hj]
        · by_cases h3 : q = j
          · subst h3
            simp [h1, hj]
          · simp [h1, hj, h2, h3, show ¬ j = p by omega, show ¬ j = q by omega]
      · simp [h1]
  | false =>
    rw [if_neg (by decide), ml_b, fa_and, nt_and_not (Nat.lt_of_le_of_lt Nat.and_le_left kx) kz]
    rw [nt_pop (n := n) (f := sp_of A p q) hn (Nat.lt_of_le_of_lt Nat.and_le_left (Nat.lt_of_le_of_lt Nat.and_le_left kx)) (fun j hj => ?_)]
    · rfl
    · rw [Nat.testBit_and, Nat.testBit_and, Nat.testBit_two_pow_sub_one, Nat.testBit_xor, Nat.testBit_xor, nt_127, nt_mk_bit, nt_mk_bit, Nat.testBit_or, Nat.testBit_two_pow, Nat.testBit_two_pow]
      unfold sp_of
      rw [hb]
      by_cases h1 : j < n
      · by_cases h2 : p = j
        · subst h2
          simp [h1, hj]
        · by_cases h3 : q = j
          · subst h3
            simp [h1, hj]
          · simp [h1, hj, h2, h3, show ¬ j = p by omega, show ¬ j = q by omega]
      · simp [h1]
theorem nt_oddNode {n : Nat} {A : Nat → Nat → Bool} {rows : Nat → Int32} (hn : n < 8) (h : nt_Rep n A rows) {p : Nat} (hp : p < n) : M_X0_oddTriplesAtNode (nI p) (nI n) rows = some (nI (sp_on n A p)) := by
  unfold M_X0_oddTriplesAtNode
  refine ml_bb (r := nI (fb_sm (fun q => if q = p then 0 else sp_op n A p q) n)) (ml_for (fun i => (nI (fb_sm (fun q => if q = p then 0 else sp_op n A p q) i), nI i)) n (by omega) rfl (fun i hi => ?_) ?_) ?_
  · show B_X0_oddTriplesAtNode_4 (nI p) (nI n) rows (nI (fb_sm (fun q => if q = p then 0 else sp_op n A p q) i)) (nI i) = _
    unfold B_X0_oddTriplesAtNode_4
    rw [if_neg (nI_ge hi (by omega)), fb_sm_succ]
    by_cases e : i = p
    · subst e
      rw [if_pos rfl, ml_let, nI_1, if_pos rfl]
      rfl
    · rw [if_neg (fun z => e ((nI_eq (by omega) (by omega)).mp z)), nt_oddPair hn h hp hi, ml_b, ml_let, ml_let, nI_1, nI_add, if_neg e]
  · show B_X0_oddTriplesAtNode_4 (nI p) (nI n) rows (nI (fb_sm (fun q => if q = p then 0 else sp_op n A p q) n)) (nI n) = _
    unfold B_X0_oddTriplesAtNode_4
    rw [if_pos (nI_le (Nat.le_refl n) (by omega))]
  · have := sp_sum_le hn A p (Nat.le_refl n)
    show some (nI _ / (2 : Int32)) = _
    rw [nt_n2, pk_div (by omega) (by decide) (by decide)]
    rfl
theorem nt_oddNet {n : Nat} {A : Nat → Nat → Bool} {rows : Nat → Int32} (hn : n < 8) (h : nt_Rep n A rows) : M_X0_oddTriples (nI n) rows = some (nI (sp_ot n A)) := by
  unfold M_X0_oddTriples
  refine ml_bb (r := nI (fb_sm (fun p => sp_on n A p) n)) (ml_for (fun i => (nI (fb_sm (fun p => sp_on n A p) i), nI i)) n (by omega) rfl (fun i hi => ?_) ?_) ?_
  · show B_X0_oddTriples_4 (nI n) rows (nI (fb_sm (fun p => sp_on n A p) i)) (nI i) = _
    unfold B_X0_oddTriples_4
    rw [if_neg (nI_ge hi (by omega)), nt_oddNode hn h hi, ml_b, ml_let, ml_let, nI_1, nI_add, fb_sm_succ]
  · show B_X0_oddTriples_4 (nI n) rows (nI (fb_sm (fun p => sp_on n A p) n)) (nI n) = _
    unfold B_X0_oddTriples_4
    rw [if_pos (nI_le (Nat.le_refl n) (by omega))]
  · have := sp_ots_le hn A (Nat.le_refl n)
    show some (nI _ / (3 : Int32)) = _
    rw [nt_n3, pk_div (by omega) (by decide) (by decide)]
    rfl
theorem nt_odd3 : ∀ a b c : Bool, ((nt_i a + nt_i b) + nt_i c) - ((nt_i a + nt_i b) + nt_i c) / (2 : Int32) * (2 : Int32) = nt_i (a ^^ (b ^^ c)) := by decide +kernel
theorem nt_mOdd {n a p q r : Nat} (hn : n < 8) (hp : p < n) (hq : q < n) (hr : r < n) : M_X6_isOdd (nI n) (nI a) (nI p) (nI q) (nI r) = some (nt_i (nt_adj n a p q ^^ (nt_adj n a p r ^^ nt_adj n a q r))) := by
  unfold M_X6_isOdd
  rw [nt_mjoined hn hp hq, ml_b, nt_mjoined hn hp hr, ml_b, nt_mjoined hn hq hr, ml_b, nt_odd3]
  cases (nt_adj n a p q ^^ (nt_adj n a p r ^^ nt_adj n a q r)) <;> rfl
theorem nt_mOddPair {n a p q : Nat} (hn : n < 8) (hp : p < n) (hq : q < n) : M_X6_oddOfPair (nI n) (nI a) (nI p) (nI q) = some (nI (sp_op n (nt_adj n a) p q)) := by
  unfold M_X6_oddOfPair
  refine ml_bb (r := nI (sp_op n (nt_adj n a) p q)) (ml_for (fun i => (nI (fb_ct (sp_of (nt_adj n a) p q) i), nI i)) n (by omega) rfl (fun i hi => ?_) ?_) rfl
  · show B_X6_oddOfPair_6 (nI n) (nI a) (nI p) (nI q) (nI (fb_ct (sp_of (nt_adj n a) p q) i)) (nI i) = _
    unfold B_X6_oddOfPair_6
    rw [if_neg (nI_ge hi (by omega)), fb_ct_succ]
    by_cases e : i = p
    · subst e
      rw [if_pos rfl, ml_let, ml_let, nI_1, nt_n0, nI_add]
      simp [sp_of]
    · rw [if_neg (fun z => e ((nI_eq (by omega) (by omega)).mp z))]
      by_cases e2 : i = q
      · subst e2
        rw [if_pos rfl, ml_let, ml_let, nI_1, nt_n0, nI_add]
        simp [sp_of]
      · rw [if_neg (fun z => e2 ((nI_eq (by omega) (by omega)).mp z)), nt_mOdd hn hp hq hi, ml_b]
        have hf : sp_of (nt_adj n a) p q i = (nt_adj n a p q ^^ (nt_adj n a p i ^^ nt_adj n a q i)) := by simp [sp_of, e, e2]
        rw [hf]
        cases (nt_adj n a p q ^^ (nt_adj n a p i ^^ nt_adj n a q i)) with
        | false =>
          rw [if_pos nt_i0, ml_let, ml_let, nI_1, nt_n0, nI_add]
          rfl
        | true =>
          rw [if_neg (by decide), ml_let, ml_let, nI_1, nI_1]
          rfl
  · show B_X6_oddOfPair_6 (nI n) (nI a) (nI p) (nI q) (nI (fb_ct (sp_of (nt_adj n a) p q) n)) (nI n) = _
    unfold B_X6_oddOfPair_6
    rw [if_pos (nI_le (Nat.le_refl n) (by omega))]
    rfl
theorem nt_mOddNode {n a p : Nat} (hn : n < 8) (hp : p < n) : M_X6_oddOfNode (nI n) (nI a) (nI p) = some (nI (sp_on n (nt_adj n a) p)) := by
  unfold M_X6_oddOfNode
  refine ml_bb (r := nI (fb_sm (fun q => if q = p then 0 else sp_op n (nt_adj n a) p q) n)) (ml_for (fun i => (nI (fb_sm (fun q => if q = p then 0 else sp_op n (nt_adj n a) p q) i), nI i)) n (by omega) rfl (fun i hi => ?_) ?_) ?_
  · show B_X6_oddOfNode_5 (nI n) (nI a) (nI p) (nI (fb_sm (fun q => if q = p then 0 else sp_op n (nt_adj n a) p q) i)) (nI i) = _
    unfold B_X6_oddOfNode_5
    rw [if_neg (nI_ge hi (by omega)), fb_sm_succ]
    by_cases e : i = p
    · subst e
      rw [if_pos rfl, ml_let, ml_let, nI_1, if_pos rfl, nt_n0, nI_add]
    · rw [if_neg (fun z => e ((nI_eq (by omega) (by omega)).mp z)), nt_mOddPair hn hp hi, ml_b, ml_let, ml_let, nI_1, nI_add, if_neg e]
  · show B_X6_oddOfNode_5 (nI n) (nI a) (nI p) (nI (fb_sm (fun q => if q = p then 0 else sp_op n (nt_adj n a) p q) n)) (nI n) = _
    unfold B_X6_oddOfNode_5
    rw [if_pos (nI_le (Nat.le_refl n) (by omega))]
  · have := sp_sum_le hn (nt_adj n a) p (Nat.le_refl n)
    show some (nI _ / (2 : Int32)) = _
    rw [nt_n2, pk_div (by omega) (by decide) (by decide)]
    rfl
theorem nt_mOddNet {n a : Nat} (hn : n < 8) : M_X6_oddOfNet (nI n) (nI a) = some (nI (sp_ot n (nt_adj n a))) := by
  unfold M_X6_oddOfNet
  refine ml_bb (r := nI (fb_sm (fun p => sp_on n (nt_adj n a) p) n)) (ml_for (fun i => (nI (fb_sm (fun p => sp_on n (nt_adj n a) p) i), nI i)) n (by omega) rfl (fun i hi => ?_) ?_) ?_
  · show B_X6_oddOfNet_4 (nI n) (nI a) (nI (fb_sm (fun p => sp_on n (nt_adj n a) p) i)) (nI i) = _
    unfold B_X6_oddOfNet_4
    rw [if_neg (nI_ge hi (by omega)), nt_mOddNode hn hi, ml_b, ml_let, ml_let, nI_1, nI_add, fb_sm_succ]
  · show B_X6_oddOfNet_4 (nI n) (nI a) (nI (fb_sm (fun p => sp_on n (nt_adj n a) p) n)) (nI n) = _
    unfold B_X6_oddOfNet_4
    rw [if_pos (nI_le (Nat.le_refl n) (by omega))]
  · have := sp_ots_le hn (nt_adj n a) (Nat.le_refl n)
    show some (nI _ / (3 : Int32)) = _
    rw [nt_n3, pk_div (by omega) (by decide) (by decide)]
    rfl
/-! ===== degrees ===== -/
def sp_dg (n : Nat) (A : Nat → Nat → Bool) (p : Nat) : Nat := fb_ct (A p) n
def sp_od (n : Nat) (A : Nat → Nat → Bool) : Nat := nt_mk n (fun p => decide (sp_dg n A p % 2 = 1))
theorem nt_odd1 {d : Nat} : nI d &&& (1 : Int32) = nt_i (decide (d % 2 = 1)) := by
  have h := fa_mask d 1
  rw [show nI (2 ^ 1 - 1) = (1 : Int32) by decide] at h
  rw [h, nt_i_n]
  congr 1
  have : d % 2 = 0 ∨ d % 2 = 1 := by omega
  rcases this with h | h <;> rw [Nat.pow_one, h] <;> rfl
theorem nt_odd2 {d : Nat} (hd : d < 2 ^ 31) : nI d - nI d / (2 : Int32) * (2 : Int32) = nt_i (decide (d % 2 = 1)) := by
  rw [nt_n2, pk_rem hd (by decide) (by decide), nt_i_n]
  congr 1
  have : d % 2 = 0 ∨ d % 2 = 1 := by omega
  rcases this with h | h <;> rw [h] <;> rfl
theorem nt_oddDegrees {n : Nat} {A : Nat → Nat → Bool} {rows : Nat → Int32} (hn : n < 8) (h : nt_Rep n A rows) : M_X0_oddDegrees (nI n) rows = some (nI (sp_od n A)) := by
  unfold M_X0_oddDegrees
  refine ml_bb (r := nI (sp_od n A)) (ml_for (fun i => (nI (nt_mk i (fun p => decide (sp_dg n A p % 2 = 1))), nI i)) n (by omega) rfl (fun i hi => ?_) ?_) rfl
  · show B_X0_oddDegrees_4 (nI n) rows (nI (nt_mk i (fun p => decide (sp_dg n A p % 2 = 1)))) (nI i) = _
    unfold B_X0_oddDegrees_4
    rw [if_neg (nI_ge hi (by omega)), nt_degree hn h hi, ml_b, ml_let, ml_let, nI_1, nt_odd1, nt_orshl _ (nt_mk_128 (by omega) _) i (by omega), ← nt_mk_succ]
    rfl
  · show B_X0_oddDegrees_4 (nI n) rows (nI (nt_mk n (fun p => decide (sp_dg n A p % 2 = 1)))) (nI n) = _
    unfold B_X0_oddDegrees_4
    rw [if_pos (nI_le (Nat.le_refl n) (by omega))]
    rfl
theorem nt_many {n : Nat} {st : Nat → Int32} (hs : st 0 = nI n) : M_X6_many st = some (nI n) := by
  unfold M_X6_many
  rw [ml_gd (by decide), show Int32.toNatClampNeg (0 : Int32) = 0 by decide, hs]
theorem nt_netOf {k : Nat} (hk : k < 3) (st : Nat → Int32) : M_X6_netOf (nI k) st = some (st (1 + k)) := by
  unfold M_X6_netOf
  rw [nt_n1, nI_add, ml_gi (by omega) (by omega), nI_clamp (by omega)]
theorem nt_mOddNodes {n a : Nat} {st : Nat → Int32} (hn : n < 8) (hs : st 0 = nI n) : M_X6_oddNodes (nI a) st = some (nI (sp_od n (nt_adj n a))) := by
  unfold M_X6_oddNodes
  refine ml_bb (r := nI (sp_od n (nt_adj n a))) (ml_for (fun i => (nI (nt_mk i (fun p => decide (sp_dg n (nt_adj n a) p % 2 = 1))), nI i)) n (by omega) rfl (fun i hi => ?_) ?_) rfl
  · show B_X6_oddNodes_4 (nI a) st (nI (nt_mk i (fun p => decide (sp_dg n (nt_adj n a) p % 2 = 1)))) (nI i) = _
    unfold B_X6_oddNodes_4
    have hd : fb_ct (nt_adj n a i) n < 2 ^ 31 := by have := fb_ct_le (nt_adj n a i) n; omega
    rw [nt_many hs, ml_b, if_neg (nI_ge hi (by omega)), ml_b, nt_mdegree hn hi, ml_b, ml_let, ml_let, nI_1, nt_odd2 hd, nt_orshl _ (nt_mk_128 (by omega) _) i (by omega), ← nt_mk_succ]
    rfl
  · show B_X6_oddNodes_4 (nI a) st (nI (nt_mk n (fun p => decide (sp_dg n (nt_adj n a) p % 2 = 1)))) (nI n) = _
    unfold B_X6_oddNodes_4
    rw [nt_many hs, ml_b, if_pos (nI_le (Nat.le_refl n) (by omega))]
    rfl
