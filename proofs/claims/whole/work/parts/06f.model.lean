/-! ===== the reference's nets: numbers ===== -/
theorem nt_ix_inj {n p q i j : Nat} (hn : n < 8) (hp : p < q) (hq : q < n) (hi : i < j) (hj : j < n) (h : nt_ix n p q = nt_ix n i j) : p = i ∧ q = j := by
  have h1 := (nt_PLix n hn q hq p hp).1
  have h2 := (nt_PLix n hn j hj i hi).1
  rw [h, h2] at h1
  have := Option.some.inj h1
  exact ⟨(congrArg Prod.fst this).symm, (congrArg Prod.snd this).symm⟩
theorem nt_num_ext {n x y : Nat} (hn : n < 8) (hx : x < 2 ^ nt_np n) (hy : y < 2 ^ nt_np n) (h : ∀ p q, p < q → q < n → nt_adj n x p q = nt_adj n y p q) : x = y := by
  rw [← nt_enc_adj hn hx, ← nt_enc_adj hn hy]
  exact nt_enc_congr h
theorem nt_num_enc {n x : Nat} {B : Nat → Nat → Bool} (hn : n < 8) (hx : x < 2 ^ nt_np n) (h : ∀ p q, p < q → q < n → nt_adj n x p q = B p q) : x = nt_enc n B := by
  rw [← nt_enc_adj hn hx]
  exact nt_enc_congr h
theorem nt_adj_e {n : Nat} (hn : n < 8) (B : Nat → Nat → Bool) {p q : Nat} (hp : p < q) (hq : q < n) : nt_adj n (nt_enc n B) p q = B p q := by
  rw [nt_adj_lt hp, nt_enc_bit hn B hp hq]
theorem nt_pw {n i j : Nat} (hn : n < 8) (hi : i < j) (hj : j < n) : 2 ^ (nt_np n - 1 - nt_ix n i j) < 2 ^ nt_np n := by
  have := (nt_PLix n hn j hj i hi).2
  exact Nat.pow_lt_pow_right (by decide) (by omega)
theorem nt_bitne {n i j p q : Nat} (hn : n < 8) (hi : i < j) (hj : j < n) (hp : p < q) (hq : q < n) : Nat.testBit (2 ^ (nt_np n - 1 - nt_ix n i j)) (nt_np n - 1 - nt_ix n p q) = (decide (p = i) && decide (q = j)) := by
  rw [Nat.testBit_two_pow]
  have h1 := (nt_PLix n hn j hj i hi).2
  have h2 := (nt_PLix n hn q hq p hp).2
  by_cases e : p = i ∧ q = j
  · obtain ⟨rfl, rfl⟩ := e
    simp
  · have : ¬ nt_np n - 1 - nt_ix n i j = nt_np n - 1 - nt_ix n p q := fun z => e (nt_ix_inj hn hp hq hi hj (by omega))
    rw [decide_eq_false this]
    by_cases e1 : p = i
    · simp [e1, show ¬ q = j from fun z => e ⟨e1, z⟩]
    · simp [e1]
theorem nt_flip {n x i j : Nat} (hn : n < 8) (hx : x < 2 ^ nt_np n) (hi : i < j) (hj : j < n) : x ^^^ 2 ^ (nt_np n - 1 - nt_ix n i j) < 2 ^ nt_np n ∧ ∀ p q, p < q → q < n → nt_adj n (x ^^^ 2 ^ (nt_np n - 1 - nt_ix n i j)) p q = (nt_adj n x p q ^^ (decide (p = i) && decide (q = j))) :=
  ⟨Nat.xor_lt_two_pow hx (nt_pw hn hi hj), fun p q hp hq => by rw [nt_adj_lt hp, nt_adj_lt hp, Nat.testBit_xor, nt_bitne hn hi hj hp hq]⟩
theorem nt_orb {n x i j : Nat} (hn : n < 8) (hx : x < 2 ^ nt_np n) (hi : i < j) (hj : j < n) : x ||| 2 ^ (nt_np n - 1 - nt_ix n i j) < 2 ^ nt_np n ∧ ∀ p q, p < q → q < n → nt_adj n (x ||| 2 ^ (nt_np n - 1 - nt_ix n i j)) p q = (nt_adj n x p q || (decide (p = i) && decide (q = j))) :=
  ⟨Nat.or_lt_two_pow hx (nt_pw hn hi hj), fun p q hp hq => by rw [nt_adj_lt hp, nt_adj_lt hp, Nat.testBit_or, nt_bitne hn hi hj hp hq]⟩
theorem nt_valueOf : ∀ n, n < 8 → ∀ p, p < n → ∀ q, q < n → p ≠ q → M_X6_valueOf (nI n) (nI p) (nI q) = some (nI (2 ^ (nt_np n - 1 - nt_ix n (min p q) (max p q)))) := by decide +kernel
theorem nt_valueOf_lt {n p q : Nat} (hn : n < 8) (hp : p < q) (hq : q < n) : M_X6_valueOf (nI n) (nI p) (nI q) = some (nI (2 ^ (nt_np n - 1 - nt_ix n p q))) := by
  have h := nt_valueOf n hn p (by omega) q hq (by omega)
  rw [Nat.min_eq_left (by omega), Nat.max_eq_right (by omega)] at h
  exact h
theorem nt_mpairs : ∀ n, n < 8 → M_X6_pairs (nI n) = some (nI (nt_np n)) := by decide +kernel
theorem nt_mjoined {n a p q : Nat} (hn : n < 8) (hp : p < n) (hq : q < n) : M_X6_joined (nI n) (nI a) (nI p) (nI q) = some (nt_i (nt_adj n a p q)) := by
  unfold M_X6_joined
  by_cases h : p = q
  · subst h
    rw [if_pos rfl, nt_adj_irr]
    rfl
  · rw [if_neg (fun e => h ((nI_eq (by omega) (by omega)).mp e)), nt_valueOf n hn p hp q hq h, ml_b]
    unfold nt_adj
    rw [if_neg h]
    have hb := fa_bit (n := a) (j := nt_np n - 1 - nt_ix n (min p q) (max p q)) (by have := nt_np_lt n hn; omega)
    cases hc : a.testBit (nt_np n - 1 - nt_ix n (min p q) (max p q)) with
    | false => rw [if_pos (hb.mpr hc)]; rfl
    | true => rw [if_neg (fun z => by rw [hb.mp z] at hc; cases hc)]; rfl
theorem nt_size {x : Nat} (hx : x < 2 ^ 31) : M_X6_size (nI x) = some (nI (fb_ct (fun j => x.testBit j) 21)) := by
  unfold M_X6_size
  refine ml_bb (r := nI (fb_ct (fun j => x.testBit j) 21)) (ml_for (fun i => (nI (fb_ct (fun j => x.testBit j) i), nI i)) 21 (by omega) rfl (fun i hi => ?_) ?_) rfl
  · show B_X6_size_4 (nI x) (nI (fb_ct (fun j => x.testBit j) i)) (nI i) = _
    unfold B_X6_size_4
    rw [show (21 : Int32) = nI 21 by decide, if_neg (nI_ge hi (by omega)), ml_let, ml_let, nt_bit hx (by omega), nI_1, nt_i_n, nI_add, fb_ct_succ]
    cases x.testBit i <;> rfl
  · show B_X6_size_4 (nI x) (nI (fb_ct (fun j => x.testBit j) 21)) (nI 21) = _
    unfold B_X6_size_4
    rw [show (21 : Int32) = nI 21 by decide, if_pos (nI_le (Nat.le_refl 21) (by omega))]
theorem nt_orshl : ∀ x, x < 128 → ∀ i, i < 7 → ∀ b : Bool, nI x ||| (nt_i b <<< (nI i &&& 31)) = nI (x ||| (if b then 2 ^ i else 0)) := by decide +kernel
theorem nt_mk_succ (f : Nat → Bool) (i : Nat) : nt_mk i f ||| (if f i then 2 ^ i else 0) = nt_mk (i + 1) f := by
  apply Nat.eq_of_testBit_eq
  intro j
  rw [Nat.testBit_or, nt_mk_bit, nt_mk_bit]
  have e : Nat.testBit (if f i = true then 2 ^ i else 0) j = (f i && decide (i = j)) := by
    by_cases h : f i = true
    · rw [if_pos h, Nat.testBit_two_pow, h]
      simp
    · rw [if_neg h, Nat.zero_testBit]
      simp [h]
  rw [e]
  by_cases hj : j = i
  · subst hj
    simp
  · by_cases h1 : j < i
    · simp [h1, show j < i + 1 by omega, show ¬ i = j by omega]
    · simp [h1, show ¬ j < i + 1 by omega, show ¬ i = j by omega]
theorem nt_neigh {n a p : Nat} (hn : n < 8) (hp : p < n) : M_X6_neighbours (nI n) (nI a) (nI p) = some (nI (nt_mk n (nt_adj n a p))) := by
  unfold M_X6_neighbours
  refine ml_bb (r := nI (nt_mk n (nt_adj n a p))) (ml_for (fun i => (nI (nt_mk i (nt_adj n a p)), nI i)) n (by omega) rfl (fun i hi => ?_) ?_) rfl
  · show B_X6_neighbours_5 (nI n) (nI a) (nI p) (nI (nt_mk i (nt_adj n a p))) (nI i) = _
    unfold B_X6_neighbours_5
    rw [if_neg (nI_ge hi (by omega)), nt_mjoined hn hp hi, ml_b, ml_let, ml_let, nt_orshl _ (nt_mk_128 (by omega) _) i (by omega), nt_mk_succ, nI_1]
  · show B_X6_neighbours_5 (nI n) (nI a) (nI p) (nI (nt_mk n (nt_adj n a p))) (nI n) = _
    unfold B_X6_neighbours_5
    rw [if_pos (nI_le (Nat.le_refl n) (by omega))]
theorem nt_size_mk {n : Nat} (hn : n < 8) (f : Nat → Bool) : M_X6_size (nI (nt_mk n f)) = some (nI (fb_ct f n)) := by
  rw [nt_size (by have := nt_mk_128 hn f; omega), fb_ct_cong (q := fun j => decide (j < n) && f j) (fun j _ => nt_mk_bit n f j), nt_ct_cut (by omega)]
theorem nt_mdegree {n a p : Nat} (hn : n < 8) (hp : p < n) : M_X6_degree (nI n) (nI a) (nI p) = some (nI (fb_ct (nt_adj n a p) n)) := by
  unfold M_X6_degree
  rw [nt_neigh hn hp, ml_b, nt_size_mk hn]
  rfl
theorem nt_mk_and {n : Nat} (f g : Nat → Bool) : nt_mk n f &&& nt_mk n g = nt_mk n (fun j => f j && g j) := by
  apply Nat.eq_of_testBit_eq
  intro j
  rw [Nat.testBit_and, nt_mk_bit, nt_mk_bit, nt_mk_bit]
  cases decide (j < n) <;> simp
theorem nt_common {n a p q : Nat} (hn : n < 8) (hp : p < n) (hq : q < n) : M_X6_common (nI n) (nI a) (nI p) (nI q) = some (nI (fb_ct (fun j => nt_adj n a p j && nt_adj n a q j) n)) := by
  unfold M_X6_common
  rw [nt_neigh hn hp, ml_b, nt_neigh hn hq, ml_b, fa_and, nt_mk_and, nt_size_mk hn]
  rfl
def nt_pr (i j p q : Nat) : Bool := decide (p < i) || (decide (p = i) && decide (q < j))
theorem nt_pr_step {i j p q : Nat} : nt_pr i (j + 1) p q = (nt_pr i j p q || (decide (p = i) && decide (q = j))) := by
  unfold nt_pr
  by_cases h : p = i
  · subst h
    by_cases h1 : q < j
    · simp [h1, show q < j + 1 by omega]
    · by_cases h2 : q = j
      · simp [h2]
      · simp [h1, h2, show ¬ q < j + 1 by omega]
  · simp [h]
theorem nt_pr_row {n i p q : Nat} (hp : p < q) (hq : q < n) : nt_pr i n p q = nt_pr (i + 1) (i + 1 + 1) p q := by
  unfold nt_pr
  by_cases h : p < i
  · simp [h, show p < i + 1 by omega]
  · by_cases h1 : p = i
    · simp [h1, hq]
    · simp [h, h1, show ¬ p < i + 1 by omega]
      omega
theorem nt_pr_no {i j p q : Nat} (h : nt_pr i j p q = true) : ¬ (p = i ∧ q = j) := by
  rintro ⟨rfl, rfl⟩
  simp [nt_pr] at h
theorem nt_pr_0 {p q : Nat} (hp : p < q) : nt_pr 0 1 p q = false := by
  unfold nt_pr
  simp
  omega
theorem nt_pr_n {n p q : Nat} (hp : p < n) : nt_pr n (n + 1) p q = true := by
  unfold nt_pr
  simp [hp]
theorem nt_switched {n a s : Nat} (hn : n < 8) (ha : a < 2 ^ nt_np n) (hs : s < 2 ^ n) : M_X6_switched (nI n) (nI a) (nI s) = some (nI (nt_enc n (nt_sw (nt_adj n a) s))) := by
  have hs2 := nt_128 hn hs
  have inner : ∀ i, i < n → ∀ x, x < 2 ^ nt_np n → (∀ p q, p < q → q < n → nt_adj n x p q = (nt_adj n a p q ^^ (nt_pr i (i + 1) p q && (s.testBit p ^^ s.testBit q)))) → ∃ r, on_loop (fun (z : Int32 × Int32) => B_X6_switched_17 (nI n) (nI s) (nI i) z.1 z.2) on_F (nI x, nI (i + 1)) = some r ∧ ∃ y, r = nI y ∧ y < 2 ^ nt_np n ∧ ∀ p q, p < q → q < n → nt_adj n y p q = (nt_adj n a p q ^^ (nt_pr (i + 1) (i + 1 + 1) p q && (s.testBit p ^^ s.testBit q))) := by
    intro i hi x hx hr
    refine ml_invF (fun k z => ∃ y, z = (nI y, nI (i + 1 + k)) ∧ y < 2 ^ nt_np n ∧ ∀ p q, p < q → q < n → nt_adj n y p q = (nt_adj n a p q ^^ (nt_pr i (i + 1 + k) p q && (s.testBit p ^^ s.testBit q)))) _ (n - (i + 1)) (by omega) (fun k z hk hz => ?_) (fun z hz => ?_) ⟨x, rfl, hx, hr⟩
    · obtain ⟨y, rfl, hy, hr⟩ := hz
      left
      by_cases hb : s.testBit i = s.testBit (i + 1 + k)
      · refine ⟨(nI y, nI (i + 1 + (k + 1))), ?_, y, rfl, hy, fun p q hp hq => ?_⟩
        · show B_X6_switched_17 (nI n) (nI s) (nI i) (nI y) (nI (i + 1 + k)) = _
          unfold B_X6_switched_17
          rw [if_neg (nI_ge (by omega) (by omega)), nt_bit (by omega) (by omega), nt_bit (by omega) (by omega), if_pos (by rw [hb]), ml_let, ml_let, nI_1, nt_n0, fb_xorI, Nat.xor_zero]
          rfl
        · rw [hr p q hp hq, show i + 1 + (k + 1) = (i + 1 + k) + 1 by omega, nt_pr_step]
          by_cases e : p = i ∧ q = i + 1 + k
          · obtain ⟨rfl, rfl⟩ := e
            rw [hb]
            simp
          · have : (decide (p = i) && decide (q = i + 1 + k)) = false := by
              by_cases e1 : p = i
              · simp [e1, show ¬ q = i + 1 + k from fun z => e ⟨e1, z⟩]
              · simp [e1]
            rw [this, Bool.or_false]
      · obtain ⟨f1, f2⟩ := nt_flip hn hy (show i < i + 1 + k by omega) (show i + 1 + k < n by omega)
        refine ⟨(nI (y ^^^ 2 ^ (nt_np n - 1 - nt_ix n i (i + 1 + k))), nI (i + 1 + (k + 1))), ?_, _, rfl, f1, fun p q hp hq => ?_⟩
        · show B_X6_switched_17 (nI n) (nI s) (nI i) (nI y) (nI (i + 1 + k)) = _
          unfold B_X6_switched_17
          rw [if_neg (nI_ge (by omega) (by omega)), nt_bit (by omega) (by omega), nt_bit (by omega) (by omega), if_neg (fun z => hb (nt_i_inj.mp z)), nt_valueOf_lt hn (by omega) (by omega), ml_b, ml_let, ml_let, nI_1, fb_xorI]
          rfl
        · rw [f2 p q hp hq, hr p q hp hq, show i + 1 + (k + 1) = (i + 1 + k) + 1 by omega, nt_pr_step]
          by_cases e : p = i ∧ q = i + 1 + k
          · obtain ⟨rfl, rfl⟩ := e
            have h1 : nt_pr p (p + 1 + k) p (p + 1 + k) = false := by
              cases hc : nt_pr p (p + 1 + k) p (p + 1 + k) with
              | false => rfl
              | true => exact absurd ⟨rfl, rfl⟩ (nt_pr_no hc)
            rw [h1]
            have h2 : (s.testBit p ^^ s.testBit (p + 1 + k)) = true := by
              cases h3 : s.testBit p <;> cases h4 : s.testBit (p + 1 + k) <;> first | rfl | (rw [h3, h4] at hb; exact absurd rfl hb)
            rw [h2]
            simp
          · have : (decide (p = i) && decide (q = i + 1 + k)) = false := by
              by_cases e1 : p = i
              · simp [e1, show ¬ q = i + 1 + k from fun z => e ⟨e1, z⟩]
              · simp [e1]
            rw [this, Bool.or_false, Bool.xor_false]
    · obtain ⟨y, rfl, hy, hr⟩ := hz
      rw [show i + 1 + (n - (i + 1)) = n by omega] at hr
      refine ⟨nI y, ?_, y, rfl, hy, fun p q hp hq => by rw [hr p q hp hq, nt_pr_row hp hq]⟩
      show B_X6_switched_17 (nI n) (nI s) (nI i) (nI y) (nI (i + 1 + (n - (i + 1)))) = _
      rw [show i + 1 + (n - (i + 1)) = n by omega]
      unfold B_X6_switched_17
      rw [if_pos (nI_le (Nat.le_refl n) (by omega))]
  have outer : ∃ r, on_loop (fun (z : Int32 × Int32) => B_X6_switched_5 (nI n) (nI s) z.1 z.2) on_F (nI a, (0 : Int32)) = some r ∧ r = nI (nt_enc n (nt_sw (nt_adj n a) s)) := by
    refine ml_invF (fun i z => ∃ y, z = (nI y, nI i) ∧ y < 2 ^ nt_np n ∧ ∀ p q, p < q → q < n → nt_adj n y p q = (nt_adj n a p q ^^ (nt_pr i (i + 1) p q && (s.testBit p ^^ s.testBit q)))) _ n (by omega) (fun i z hi hz => ?_) (fun z hz => ?_) ⟨a, rfl, ha, fun p q hp hq => by rw [nt_pr_0 hp]; simp⟩
    · obtain ⟨y, rfl, hy, hr⟩ := hz
      left
      obtain ⟨r, h1, y2, rfl, hy2, hr2⟩ := inner i hi y hy hr
      refine ⟨(nI y2, nI (i + 1)), ?_, y2, rfl, hy2, hr2⟩
      show B_X6_switched_5 (nI n) (nI s) (nI y) (nI i) = _
      unfold B_X6_switched_5
      rw [if_neg (nI_ge hi (by omega)), ml_let, nI_1, h1, ml_b, ml_let]
    · obtain ⟨y, rfl, hy, hr⟩ := hz
      refine ⟨nI y, ?_, ?_⟩
      · show B_X6_switched_5 (nI n) (nI s) (nI y) (nI n) = _
        unfold B_X6_switched_5
        rw [if_pos (nI_le (Nat.le_refl n) (by omega))]
      · rw [nt_num_enc (B := nt_sw (nt_adj n a) s) hn hy (fun p q hp hq => by rw [hr p q hp hq, nt_pr_n (by omega)]; rfl)]
  obtain ⟨r, h1, rfl⟩ := outer
  unfold M_X6_switched
  exact ml_bb h1 rfl
theorem nt_alone {n a p : Nat} (hn : n < 8) (ha : a < 2 ^ nt_np n) (hp : p < n) : M_X6_alone (nI n) (nI a) (nI p) = some (nI (nt_enc n (nt_sw (nt_adj n a) (nt_mk n (nt_adj n a p))))) := by
  unfold M_X6_alone
  rw [nt_neigh hn hp, ml_b, nt_switched hn ha (nt_mk_lt n _)]
  rfl
