/-! ===== loading a net, and its number ===== -/
theorem ml_bb {α β : Type} {a : Option α} {r : α} {g : α → Option β} {x : Option β} (h : a = some r) (h2 : g r = x) : a.bind g = x := by
  rw [h]
  exact h2
theorem nt_smod : ∀ n, n < 32 → ((nI n &&& 31).toBitVec.smod 32).toNat = n := by decide +kernel
theorem nt_bit {a k : Nat} (ha : a < 2 ^ 31) (hk : k < 31) : (nI a >>> (nI k &&& 31)) &&& (1 : Int32) = nt_i (a.testBit k) := by
  rw [pk_shrN ha _ k (nt_smod k (by omega))]
  have h := fa_mask (a / 2 ^ k) 1
  rw [show nI (2 ^ 1 - 1) = (1 : Int32) by decide] at h
  rw [h, Nat.testBit_eq_decide_div_mod_eq, nt_i_n]
  congr 1
  have : a / 2 ^ k % 2 = 0 ∨ a / 2 ^ k % 2 = 1 := by omega
  rcases this with h | h <;> rw [Nat.pow_one, h] <;> rfl
theorem nt_adj_symm (n a p q : Nat) : nt_adj n a p q = nt_adj n a q p := by
  unfold nt_adj
  by_cases h : p = q
  · subst h
    rfl
  · rw [if_neg h, if_neg (fun e => h e.symm), Nat.min_comm, Nat.max_comm]
theorem nt_adj_irr (n a p : Nat) : nt_adj n a p p = false := by simp [nt_adj]
theorem nt_adj_G (n a : Nat) : nt_G (nt_adj n a) := ⟨nt_adj_symm n a, nt_adj_irr n a⟩
theorem nt_adj_lt {n a p q : Nat} (h : p < q) : nt_adj n a p q = a.testBit (nt_np n - 1 - nt_ix n p q) := by
  unfold nt_adj
  rw [if_neg (by omega), Nat.min_eq_left (by omega), Nat.max_eq_right (by omega)]
theorem nt_ixS {n i j : Nat} (h : i < j) : nt_ix n i (j + 1) = nt_ix n i j + 1 := by
  unfold nt_ix
  omega
theorem nt_ixN : ∀ n, n < 8 → ∀ i, i < n → nt_ix n i n = nt_ix n (i + 1) (i + 1 + 1) := by decide +kernel
theorem nt_ixE : ∀ n, n < 8 → nt_ix n n (n + 1) = nt_np n := by decide +kernel
theorem nt_ix0 : ∀ n, n < 8 → nt_ix n 0 (0 + 1) = 0 := by decide +kernel
def nt_T (n : Nat) (A : Nat → Nat → Bool) (m : Nat) : Nat := nt_eL (((nt_PL n).take m).map fun x => A x.1 x.2)
theorem nt_T_lt {n : Nat} (hn : n < 8) (A : Nat → Nat → Bool) (m : Nat) : nt_T n A m < 2 ^ 21 := by
  have h := nt_eL_lt (((nt_PL n).take m).map fun x => A x.1 x.2)
  rw [List.length_map, List.length_take, nt_PLlen n hn] at h
  exact Nat.lt_of_lt_of_le h (Nat.pow_le_pow_right (by decide) (by have := nt_np_lt n hn; omega))
theorem nt_T_succ {n : Nat} {A : Nat → Nat → Bool} {m p q : Nat} (h : (nt_PL n)[m]? = some (p, q)) : nt_T n A (m + 1) = 2 * nt_T n A m + (A p q).toNat := by
  unfold nt_T
  rw [List.take_succ, h, List.map_append]
  show nt_eL (_ ++ [A p q]) = _
  rw [nt_eL_snoc]
theorem nt_number {n : Nat} {A : Nat → Nat → Bool} {rows : Nat → Int32} (hn : n < 8) (h : nt_Rep n A rows) : M_X0_number (nI n) rows = some (nI (nt_enc n A)) := by
  have inner : ∀ i, i < n → on_loop (fun (s : Int32 × Int32) => B_X0_number_16 (nI i) (nI n) rows s.1 s.2) on_F (nI (nt_T n A (nt_ix n i (i + 1))), nI (i + 1)) = some (nI (nt_T n A (nt_ix n (i + 1) (i + 1 + 1)))) := by
    intro i hi
    refine ml_for (fun k => (nI (nt_T n A (nt_ix n i (i + 1 + k))), nI (i + 1 + k))) (n - (i + 1)) (by omega) rfl (fun k hk => ?_) ?_
    · show B_X0_number_16 (nI i) (nI n) rows (nI (nt_T n A (nt_ix n i (i + 1 + k)))) (nI (i + 1 + k)) = _
      unfold B_X0_number_16
      have hT := nt_T_lt hn A (nt_ix n i (i + 1 + k))
      rw [if_neg (nI_ge (by omega) (by omega)), nt_joined hn h hi (show i + 1 + k < n by omega), ml_b, ml_let, ml_let, nt_shl1 (by omega), nI_1, ← nt_T_succ (nt_PLix n hn (i + 1 + k) (by omega) i (by omega)).1, ← nt_ixS (by omega)]
      rfl
    · show B_X0_number_16 (nI i) (nI n) rows (nI (nt_T n A (nt_ix n i (i + 1 + (n - (i + 1)))))) (nI (i + 1 + (n - (i + 1)))) = _
      rw [show i + 1 + (n - (i + 1)) = n by omega]
      unfold B_X0_number_16
      rw [if_pos (nI_le (Nat.le_refl n) (by omega)), nt_ixN n hn i hi]
  unfold M_X0_number
  refine ml_bb (r := nI (nt_enc n A)) (ml_for (fun i => (nI (nt_T n A (nt_ix n i (i + 1))), nI i)) n (by omega) (by rw [nt_ix0 n hn]; rfl) (fun i hi => ?_) ?_) rfl
  · show B_X0_number_4 (nI n) rows (nI (nt_T n A (nt_ix n i (i + 1)))) (nI i) = _
    unfold B_X0_number_4
    rw [if_neg (nI_ge hi (by omega)), ml_let, nI_1, inner i hi, ml_b, ml_let]
  · show B_X0_number_4 (nI n) rows (nI (nt_T n A (nt_ix n n (n + 1)))) (nI n) = _
    unfold B_X0_number_4
    rw [if_pos (nI_le (Nat.le_refl n) (by omega)), nt_ixE n hn]
    unfold nt_T nt_enc
    rw [← nt_PLlen n hn, List.take_length]
def nt_pt (B : Nat → Nat → Bool) (i j : Nat) : Nat → Nat → Bool := fun p q => (decide (min p q < i) || (decide (min p q = i) && decide (max p q < j))) && B p q
theorem nt_pt_step {B : Nat → Nat → Bool} (hB : nt_G B) {i j : Nat} (h : i < j) (p q : Nat) : nt_set (nt_pt B i j) i j (B i j) p q = nt_pt B i (j + 1) p q := by
  unfold nt_set nt_pt
  by_cases e : (p = i ∧ q = j) ∨ (p = j ∧ q = i)
  · rw [if_pos e]
    rcases e with ⟨rfl, rfl⟩ | ⟨rfl, rfl⟩
    · rw [Nat.min_eq_left (by omega), Nat.max_eq_right (by omega)]
      simp
    · rw [Nat.min_eq_right (by omega), Nat.max_eq_left (by omega), hB.1 p q]
      simp
  · rw [if_neg e]
    congr 2
    by_cases h1 : min p q = i
    · have h2 : max p q ≠ j := by omega
      rw [h1]
      simp
      omega
    · simp [h1]
theorem nt_pt_row {B : Nat → Nat → Bool} (hB : nt_G B) {n i : Nat} (p q : Nat) (hp : p < n) (hq : q < n) : nt_pt B i n p q = nt_pt B (i + 1) (i + 1 + 1) p q := by
  unfold nt_pt
  by_cases e : p = q
  · subst e
    rw [hB.2 p]
    simp
  · congr 1
    by_cases h1 : min p q < i
    · simp [h1, show min p q < i + 1 by omega]
    · by_cases h2 : min p q = i
      · simp [h2, show max p q < n by omega]
      · have h3 : ¬ min p q < i + 1 := by omega
        simp [h1, h2, h3]
        omega
theorem nt_connect_b {n : Nat} {A : Nat → Nat → Bool} {rows : Nat → Int32} (hn : n < 8) (h : nt_Rep n A rows) {p q : Nat} (hp : p < n) (hq : q < n) (hne : p ≠ q) (b : Bool) {α : Type} (f : (Nat → Int32) → Option α) : ∃ rows', (if nt_i b = (1 : Int32) then (M_X0_connect (nI p) (nI q) (1 : Int32) rows).bind f else (M_X0_connect (nI p) (nI q) (0 : Int32) rows).bind f) = f rows' ∧ nt_Rep n (nt_set A p q b) rows' := by
  obtain ⟨rows', h1, h2⟩ := nt_connect hn h hp hq hne b
  refine ⟨rows', ?_, h2⟩
  cases b with
  | true =>
    rw [nt_i1] at h1
    rw [if_pos nt_i1, h1]
    rfl
  | false =>
    rw [nt_i0] at h1
    rw [if_neg (by decide), h1]
    rfl
theorem nt_takeNumber {n a : Nat} {rows : Nat → Int32} (hn : n < 8) (ha : a < 2 ^ nt_np n) (h : nt_Rep n (nt_pt (nt_adj n a) 0 1) rows) : ∃ rows', M_X0_takeNumber (nI a) (nI n) rows = some rows' ∧ nt_Rep n (nt_adj n a) rows' := by
  have ha2 := nt_num_lt hn ha
  have hnp := nt_np_lt n hn
  have inner : ∀ i, i < n → ∀ rows, nt_Rep n (nt_pt (nt_adj n a) i (i + 1)) rows → ∃ r, on_loop (fun (s : Int32 × Int32 × (Nat → Int32)) => B_X0_takeNumber_23 (nI a) (nI i) (nI n) s.1 s.2.1 s.2.2) on_F (nI (nt_np n - nt_ix n i (i + 1)), nI (i + 1), rows) = some r ∧ r.1 = nI (nt_np n - nt_ix n (i + 1) (i + 1 + 1)) ∧ nt_Rep n (nt_pt (nt_adj n a) (i + 1) (i + 1 + 1)) r.2 := by
    intro i hi rows hr
    refine ml_invF (fun k s => ∃ rows, s = (nI (nt_np n - nt_ix n i (i + 1 + k)), nI (i + 1 + k), rows) ∧ nt_Rep n (nt_pt (nt_adj n a) i (i + 1 + k)) rows) _ (n - (i + 1)) (by omega) (fun k s hk hs => ?_) (fun s hs => ?_) ⟨rows, rfl, hr⟩
    · obtain ⟨rw1, rfl, hr⟩ := hs
      left
      have hix := (nt_PLix n hn (i + 1 + k) (by omega) i (by omega)).2
      have e := nt_adj_lt (n := n) (a := a) (show i < i + 1 + k by omega)
      obtain ⟨rw2, h1, h2⟩ := nt_connect_b hn hr hi (show i + 1 + k < n by omega) (by omega) (nt_adj n a i (i + 1 + k)) (fun q => on_let (nI (i + 1 + k) + 1) (fun (v : Int32) => (some (Sum.inl (nI (nt_np n - nt_ix n i (i + 1 + k) - 1), v, q)) : Option ((Int32 × Int32 × (Nat → Int32)) ⊕ (Int32 × (Nat → Int32))))))
      refine ⟨_, ?_, rw2, rfl, h2.congr (fun p q _ _ => nt_pt_step (nt_adj_G n a) (by omega) p q)⟩
      show B_X0_takeNumber_23 (nI a) (nI i) (nI n) (nI (nt_np n - nt_ix n i (i + 1 + k))) (nI (i + 1 + k)) rw1 = _
      unfold B_X0_takeNumber_23
      rw [if_neg (nI_ge (by omega) (by omega)), ml_let, sb_m1 (by omega), nt_bit (by omega) (by omega), show nt_np n - nt_ix n i (i + 1 + k) - 1 = nt_np n - 1 - nt_ix n i (i + 1 + k) by omega, ← e]
      rw [show nt_np n - nt_ix n i (i + 1 + k) - 1 = nt_np n - 1 - nt_ix n i (i + 1 + k) by omega] at h1
      refine h1.trans ?_
      rw [ml_let, nI_1, show nt_np n - 1 - nt_ix n i (i + 1 + k) = nt_np n - nt_ix n i (i + 1 + (k + 1)) by rw [show i + 1 + (k + 1) = i + 1 + k + 1 by omega, nt_ixS (by omega)]; omega]
      rfl
    · obtain ⟨rw1, rfl, hr⟩ := hs
      rw [show i + 1 + (n - (i + 1)) = n by omega] at hr
      refine ⟨(nI (nt_np n - nt_ix n i n), rw1), ?_, by rw [nt_ixN n hn i hi], hr.congr (fun p q hp hq => nt_pt_row (nt_adj_G n a) p q hp hq)⟩
      show B_X0_takeNumber_23 (nI a) (nI i) (nI n) (nI (nt_np n - nt_ix n i (i + 1 + (n - (i + 1))))) (nI (i + 1 + (n - (i + 1)))) rw1 = _
      rw [show i + 1 + (n - (i + 1)) = n by omega]
      unfold B_X0_takeNumber_23
      rw [if_pos (nI_le (Nat.le_refl n) (by omega))]
  unfold M_X0_takeNumber
  rw [nt_pairsOf n hn, ml_b]
  have outer : ∃ r, on_loop (fun (s : Int32 × Int32 × (Nat → Int32)) => B_X0_takeNumber_10 (nI a) (nI n) s.1 s.2.1 s.2.2) on_F (nI (nt_np n), (0 : Int32), rows) = some r ∧ nt_Rep n (nt_adj n a) r := by
    refine ml_invF (fun i s => ∃ rows, s = (nI (nt_np n - nt_ix n i (i + 1)), nI i, rows) ∧ nt_Rep n (nt_pt (nt_adj n a) i (i + 1)) rows) _ n (by omega) (fun i s hi hs => ?_) (fun s hs => ?_) ⟨rows, by rw [nt_ix0 n hn]; rfl, h⟩
    · obtain ⟨rw1, rfl, hr⟩ := hs
      left
      obtain ⟨⟨r1, r2⟩, h1, h2, h3⟩ := inner i hi rw1 hr
      have h2 : r1 = _ := h2
      subst h2
      refine ⟨_, ?_, r2, rfl, h3⟩
      show B_X0_takeNumber_10 (nI a) (nI n) (nI (nt_np n - nt_ix n i (i + 1))) (nI i) rw1 = _
      unfold B_X0_takeNumber_10
      rw [if_neg (nI_ge hi (by omega)), ml_let, nI_1, h1, ml_b, ml_let]
    · obtain ⟨rw1, rfl, hr⟩ := hs
      refine ⟨rw1, ?_, hr.congr (fun p q hp hq => by unfold nt_pt; simp [show min p q < n by omega])⟩
      show B_X0_takeNumber_10 (nI a) (nI n) (nI (nt_np n - nt_ix n n (n + 1))) (nI n) rw1 = _
      unfold B_X0_takeNumber_10
      rw [if_pos (nI_le (Nat.le_refl n) (by omega))]
  obtain ⟨r, h1, h2⟩ := outer
  rw [h1]
  exact ⟨r, rfl, h2⟩
theorem nt_clear0 {B : Nat → Nat → Bool} (hB : nt_G B) {n : Nat} (hn : n < 8) (rows : Nat → Int32) : nt_Rep n (nt_pt B 0 1) (fa_fill (fun _ => 0) rows 7) := by
  intro i hi
  rw [fa_fill_in (by omega), nt_n0]
  congr 1
  symm
  apply Nat.eq_of_testBit_eq
  intro j
  rw [nt_mk_bit, Nat.zero_testBit]
  unfold nt_pt
  by_cases e : i = j
  · subst e
    rw [hB.2]
    simp
  · have : ¬ max i j < 1 := by omega
    simp [this]
theorem nt_X0clear (n : Nat) (rows : Nat → Int32) : M_X0_clear (nI n) rows = some (nI n, fa_fill (fun _ => 0) rows 7) := by
  unfold M_X0_clear
  rw [nt_fill (by omega)]
  rfl
theorem nt_load {n a k : Nat} {nums rows : Nat → Int32} (hn : n < 8) (ha : a < 2 ^ nt_np n) (hk : k < 3) (hs : nums k = nI a) : ∃ rows', M_X5_load (nI k) (nI n) nums rows = some (nI n, rows') ∧ nt_Rep n (nt_adj n a) rows' := by
  obtain ⟨rows', h1, h2⟩ := nt_takeNumber hn ha (nt_clear0 (nt_adj_G n a) hn rows)
  refine ⟨rows', ?_, h2⟩
  unfold M_X5_load
  rw [nt_X0clear, ml_b, ml_gi hk (by omega), nI_clamp (by omega), hs]
  show (M_X0_takeNumber (nI a) (nI n) (fa_fill (fun _ => 0) rows 7)).bind _ = _
  rw [h1]
  rfl
/-! ===== switching ===== -/
def nt_sw (A : Nat → Nat → Bool) (s : Nat) : Nat → Nat → Bool := fun p q => A p q ^^ (s.testBit p ^^ s.testBit q)
theorem nt_sw_G {A : Nat → Nat → Bool} (h : nt_G A) (s : Nat) : nt_G (nt_sw A s) := ⟨fun p q => by unfold nt_sw; rw [h.1 p q, Bool.xor_comm (s.testBit p)], fun p => by unfold nt_sw; rw [h.2]; simp⟩
theorem nt_switchBy {n s : Nat} {A : Nat → Nat → Bool} {rows : Nat → Int32} (hn : n < 8) (hs : s < 2 ^ n) (h : nt_Rep n A rows) : ∃ rows', M_X0_switchBy (nI s) (nI n) rows = some rows' ∧ nt_Rep n (nt_sw A s) rows' := by
  have hs2 := nt_128 hn hs
  have hr : M_X0_allNodes (nI n) = some (nI (2 ^ n - 1)) := by
    unfold M_X0_allNodes
    rw [nt_all n hn]
  let g : Nat → Int32 := fun j => rows j ^^^ (if s.testBit j then nI ((2 ^ n - 1) &&& (127 ^^^ s)) else nI s)
  refine ⟨fa_fill g rows n, ?_, ?_⟩
  · unfold M_X0_switchBy
    rw [hr, ml_b, ml_let, nt_rest n hn s hs2]
    refine ml_bb (r := fa_fill g rows n) (ml_for (fun i => (nI i, fa_fill g rows i)) n (by omega) (by rw [nI_0, fa_fill_0]) (fun i hi => ?_) ?_) rfl
    · show B_X0_switchBy_11 (nI s) (nI ((2 ^ n - 1) &&& (127 ^^^ s))) (nI n) (nI i) (fa_fill g rows i) = _
      unfold B_X0_switchBy_11
      rw [if_neg (nI_ge hi (by omega)), ml_gi (by omega) (by omega), nt_bit (by omega) (by omega), nI_clamp (by omega), fa_fill_out (Nat.le_refl i), ml_gi (by omega) (by omega), ml_let, nI_1, ml_gi (by omega) (by omega), ml_let]
      have e := fa_fill_succ g rows i
      by_cases hb : s.testBit i = true
      · have hg : g i = rows i ^^^ nI ((2 ^ n - 1) &&& (127 ^^^ s)) := by show rows i ^^^ (if s.testBit i = true then _ else _) = _; rw [if_pos hb]
        rw [if_pos (nt_i_1.mpr hb), ← hg, e]
      · have hg : g i = rows i ^^^ nI s := by show rows i ^^^ (if s.testBit i = true then _ else _) = _; rw [if_neg hb]
        rw [if_neg (fun q => hb (nt_i_1.mp q)), ← hg, e]
    · show B_X0_switchBy_11 (nI s) (nI ((2 ^ n - 1) &&& (127 ^^^ s))) (nI n) (nI n) (fa_fill g rows n) = _
      unfold B_X0_switchBy_11
      rw [if_pos (nI_le (Nat.le_refl n) (by omega))]
  · intro i hi
    rw [fa_fill_in hi]
    show rows i ^^^ (if s.testBit i then nI ((2 ^ n - 1) &&& (127 ^^^ s)) else nI s) = _
    rw [h i hi]
    have hlt : ∀ j, ¬ j < n → s.testBit j = false := fun j hj => Nat.testBit_lt_two_pow (Nat.lt_of_lt_of_le hs (Nat.pow_le_pow_right (by decide) (by omega)))
    by_cases hb : s.testBit i = true
    · rw [if_pos hb, fb_xorI]
      congr 1
      apply Nat.eq_of_testBit_eq
      intro j
      rw [Nat.testBit_xor, nt_mk_bit, nt_mk_bit, Nat.testBit_and, Nat.testBit_two_pow_sub_one, Nat.testBit_xor, nt_127]
      unfold nt_sw
      rw [hb]
      by_cases hj : j < n
      · simp [hj, show j < 7 by omega]
      · simp [hj]
    · rw [if_neg hb, fb_xorI]
      congr 1
      apply Nat.eq_of_testBit_eq
      intro j
      rw [Nat.testBit_xor, nt_mk_bit, nt_mk_bit]
      unfold nt_sw
      rw [Bool.not_eq_true] at hb
      rw [hb]
      by_cases hj : j < n
      · simp [hj]
      · simp [hj, hlt j hj]
theorem nt_leaveAlone {n p : Nat} {A : Nat → Nat → Bool} {rows : Nat → Int32} (hn : n < 8) (hp : p < n) (h : nt_Rep n A rows) : ∃ rows', M_X0_leaveAlone (nI p) (nI n) rows = some rows' ∧ nt_Rep n (nt_sw A (nt_mk n (A p))) rows' := by
  obtain ⟨rows', h1, h2⟩ := nt_switchBy hn (nt_mk_lt n (A p)) h
  refine ⟨rows', ?_, h2⟩
  unfold M_X0_leaveAlone
  rw [ml_gi (by omega) (by omega), nI_clamp (by omega), h p hp, h1]
  rfl
theorem nt_copySwitched {n s : Nat} {A : Nat → Nat → Bool} {rows rows0 : Nat → Int32} (hn : n < 8) (hs : s < 2 ^ n) (h : nt_Rep n A rows) : ∃ rows', M_X0_copySwitched (nI s) rows0 (nI n) rows = some (nI n, rows') ∧ nt_Rep n (nt_sw A s) rows' := by
  have hc : nt_Rep n A (va_cpy rows rows0 0 0 7) := by
    intro i hi
    rw [pk_cpy_in (Nat.zero_le i) (by omega)]
    have := h i hi
    simpa using this
  obtain ⟨rows', h1, h2⟩ := nt_switchBy hn hs hc
  refine ⟨rows', ?_, h2⟩
  unfold M_X0_copySwitched
  rw [h1]
  rfl
