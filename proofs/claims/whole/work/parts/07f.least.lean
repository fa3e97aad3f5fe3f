/-! ===== numbers given one by one ===== -/
def pm_e (f : Nat → Bool) : Nat → Nat
  | 0 => 0
  | k + 1 => 2 * pm_e f k + (f k).toNat
theorem pm_e_lt (f : Nat → Bool) : ∀ k, pm_e f k < 2 ^ k
  | 0 => Nat.zero_lt_one
  | k + 1 => by
    have := pm_e_lt f k
    rw [pm_e, Nat.pow_succ]
    cases f k <;> simp <;> omega
theorem pm_e_eq {f g : Nat → Bool} : ∀ {k : Nat}, pm_e f k = pm_e g k → ∀ j, j < k → f j = g j
  | 0, _, j, hj => absurd hj (Nat.not_lt_zero j)
  | k + 1, h, j, hj => by
    rw [pm_e, pm_e] at h
    have e : pm_e f k = pm_e g k ∧ f k = g k := by
      revert h
      cases f k <;> cases g k <;> simp <;> omega
    by_cases c : j = k
    · rw [c]; exact e.2
    · exact pm_e_eq e.1 j (by omega)
theorem pm_e_cong {f g : Nat → Bool} : ∀ {k : Nat}, (∀ j, j < k → f j = g j) → pm_e f k = pm_e g k
  | 0, _ => rfl
  | k + 1, h => by rw [pm_e, pm_e, pm_e_cong (fun j hj => h j (by omega)), h k (by omega)]
theorem pm_e_less {f g : Nat → Bool} : ∀ {k : Nat}, pm_e f k < pm_e g k → ∃ i, i < k ∧ (∀ j, j < i → f j = g j) ∧ f i = false ∧ g i = true
  | 0, h => absurd h (Nat.lt_irrefl 0)
  | k + 1, h => by
    rw [pm_e, pm_e] at h
    by_cases c : pm_e f k < pm_e g k
    · obtain ⟨i, h1, h2⟩ := pm_e_less c
      exact ⟨i, by omega, h2⟩
    · have e : pm_e f k = pm_e g k ∧ f k = false ∧ g k = true := by
        revert h
        cases f k <;> cases g k <;> simp <;> omega
      exact ⟨k, by omega, fun j hj => pm_e_eq e.1 j hj, e.2⟩
def pm_sp (x y a : Nat) : Nat := if a = x then y else if a = y then x else a
theorem pm_sp_sp (x y a : Nat) : pm_sp x y (pm_sp x y a) = a := by
  unfold pm_sp
  by_cases h1 : a = x
  · by_cases h2 : y = x <;> simp [h1, h2]
  · by_cases h2 : a = y
    · simp [h2]
    · simp [h1, h2]
def pm_sm (n : Nat) (x y : Nat) (m : List Nat) : List Nat := pm_mk n (fun i => pm_sp x y (pa m i))
theorem pm_sm_P {n x y : Nat} {m : List Nat} (h : pm_P n m) (hx : x < n) (hy : y < n) : pm_P n (pm_sm n x y m) :=
  pm_mk_P (fun i hi => by have := pm_lt h hi; unfold pm_sp; split; exact hy; split; exact hx; exact this)
    (fun i j hi hj e => pm_inj h hi hj (by rw [← pm_sp_sp x y (pa m i), e, pm_sp_sp]))
theorem pm_sm_at {n x y i : Nat} {m : List Nat} (hi : i < n) : pa (pm_sm n x y m) i = pm_sp x y (pa m i) := pm_mk_at hi
def pm_tw (n : Nat) (A : Nat → Nat → Bool) (x y : Nat) : Prop := ∀ j, j < n → j ≠ x → j ≠ y → A x j = A y j
theorem pm_tw_sp {n : Nat} {A : Nat → Nat → Bool} (hG : nt_G A) {x y : Nat} (h : pm_tw n A x y) {a b : Nat} (ha : a < n) (hb : b < n) : A (pm_sp x y a) (pm_sp x y b) = A a b := by
  unfold pm_sp
  by_cases a1 : a = x
  · by_cases b1 : b = x
    · simp [a1, b1, hG.2]
    · by_cases b2 : b = y
      · rw [if_pos a1, if_neg b1, if_pos b2, a1, b2, hG.1]
      · rw [if_pos a1, if_neg b1, if_neg b2, a1, h b hb b1 b2]
  · by_cases a2 : a = y
    · by_cases b1 : b = x
      · rw [if_neg a1, if_pos a2, if_pos b1, a2, b1, hG.1]
      · by_cases b2 : b = y
        · rw [if_neg a1, if_pos a2, if_neg b1, if_pos b2, a2, b2, hG.2, hG.2]
        · rw [if_neg a1, if_pos a2, if_neg b1, if_neg b2, a2, h b hb b1 b2]
    · by_cases b1 : b = x
      · rw [if_neg a1, if_neg a2, if_pos b1, b1, hG.1 a y, hG.1 a x, h a ha a1 a2]
      · by_cases b2 : b = y
        · rw [if_neg a1, if_neg a2, if_neg b1, if_pos b2, b2, hG.1 a y, hG.1 a x, h a ha a1 a2]
        · rw [if_neg a1, if_neg a2, if_neg b1, if_neg b2]
theorem pm_sm_tw {n : Nat} {A : Nat → Nat → Bool} (hG : nt_G A) {x y : Nat} (h : pm_tw n A x y) {m : List Nat} (hm : pm_P n m) : nt_enc n (pm_arr A (pm_sm n x y m)) = nt_enc n (pm_arr A m) := by
  refine nt_enc_congr (fun p q hp hq => ?_)
  unfold pm_arr
  rw [pm_sm_at (by omega), pm_sm_at hq]
  exact pm_tw_sp hG h (pm_lt hm (by omega)) (pm_lt hm hq)
theorem pm_sm_less {n k : Nat} (hn : n < 8) {A : Nat → Nat → Bool} {x y : Nat} {m : List Nat} (hm : pm_P n m) (hk : k < n) (hx : pa m k = x) (hy : ∀ i, i < k → pa m i ≠ y) (hl : pm_e (fun i => A (pa m i) y) k < pm_e (fun i => A (pa m i) x) k) : nt_enc n (pm_arr A (pm_sm n x y m)) < nt_enc n (pm_arr A m) := by
  obtain ⟨i, hi, h1, h2, h3⟩ := pm_e_less hl
  have hx2 : ∀ j, j < n → pa m j = x → j = k := fun j hj e => pm_inj hm hj hk (e.trans hx.symm)
  have hpre : ∀ j, j < k → pm_sp x y (pa m j) = pa m j := fun j hj => by
    unfold pm_sp
    rw [if_neg (fun e => by have := hx2 j (by omega) e; omega), if_neg (hy j hj)]
  refine nt_enc_less hn hi hk (fun a b hab hb hc => ?_) ?_ ?_
  · unfold pm_arr
    rw [pm_sm_at (by omega), pm_sm_at hb, hpre a (by omega)]
    rcases hc with hc | hc
    · unfold pm_sp
      by_cases b1 : pa m b = x
      · rw [if_pos b1, b1]
        exact h1 a hc
      · by_cases b2 : pa m b = y
        · rw [if_neg b1, if_pos b2, b2]
          exact (h1 a hc).symm
        · rw [if_neg b1, if_neg b2]
    · rw [hpre b hc.2]
  · unfold pm_arr
    rw [pm_sm_at (by omega), pm_sm_at hk, hpre i hi, hx]
    unfold pm_sp
    rw [if_pos rfl]
    exact h2
  · unfold pm_arr
    rw [hx]
    exact h3
def pm_pre (n k g : Nat) (pre : Nat → Nat) : Prop := k ≤ n ∧ g < 128 ∧ (∀ i, i < k → pre i < n) ∧ (∀ i j, i < k → j < k → pre i = pre j → i = j) ∧ ∀ x, x < n → (g.testBit x = true ↔ ∃ i, i < k ∧ pre i = x)
def pm_put (pre : Nat → Nat) (k x : Nat) : Nat → Nat := fun i => if i = k then x else pre i
theorem pm_put_at (pre : Nat → Nat) (k x : Nat) : pm_put pre k x k = x := if_pos rfl
theorem pm_put_ne {pre : Nat → Nat} {k x i : Nat} (h : i ≠ k) : pm_put pre k x i = pre i := if_neg h
theorem pm_pre_put {n k g : Nat} {pre : Nat → Nat} (hn : n < 8) (h : pm_pre n k g pre) (hk : k < n) {x : Nat} (hx : x < n) (hf : g.testBit x = false) : pm_pre n (k + 1) (g ||| 2 ^ x) (pm_put pre k x) := by
  obtain ⟨h1, h2, h3, h4, h5⟩ := h
  have hnx : ∀ i, i < k → pre i ≠ x := fun i hi e => by
    have := (h5 x hx).mpr ⟨i, hi, e⟩
    rw [hf] at this
    exact absurd this (by decide)
  refine ⟨hk, ?_, fun i hi => ?_, fun i j hi hj e => ?_, fun u hu => ?_⟩
  · exact Nat.or_lt_two_pow (n := 7) h2 (Nat.pow_lt_pow_right (by decide) (by omega))
  · by_cases e : i = k
    · rw [e, pm_put_at]; exact hx
    · rw [pm_put_ne e]; exact h3 i (by omega)
  · by_cases e1 : i = k
    · by_cases e2 : j = k
      · omega
      · rw [e1, pm_put_at, pm_put_ne e2] at e
        exact absurd e.symm (hnx j (by omega))
    · by_cases e2 : j = k
      · rw [e2, pm_put_at, pm_put_ne e1] at e
        exact absurd e (hnx i (by omega))
      · rw [pm_put_ne e1, pm_put_ne e2] at e
        exact h4 i j (by omega) (by omega) e
  · rw [fb_bit_set, Bool.or_eq_true, h5 u hu, decide_eq_true_iff]
    constructor
    · rintro (⟨i, h6, h7⟩ | e)
      · exact ⟨i, by omega, by rw [pm_put_ne (by omega)]; exact h7⟩
      · exact ⟨k, by omega, by rw [pm_put_at, e]⟩
    · rintro ⟨i, h6, h7⟩
      by_cases e : i = k
      · rw [e, pm_put_at] at h7
        exact Or.inr h7.symm
      · rw [pm_put_ne e] at h7
        exact Or.inl ⟨i, by omega, h7⟩
theorem pm_free {n k g : Nat} {pre : Nat → Nat} (h : pm_pre n k g pre) (hk : k < n) : ∃ x, x < n ∧ g.testBit x = false := by
  refine Classical.byContradiction (fun hc => ?_)
  have h1 : ∀ x, ∃ i, x < n → i < k ∧ pre i = x := fun x => by
    by_cases hx : x < n
    · have : g.testBit x = true := by
        cases hb : g.testBit x
        · exact absurd ⟨x, hx, hb⟩ hc
        · rfl
      obtain ⟨i, h2⟩ := (h.2.2.2.2 x hx).mp this
      exact ⟨i, fun _ => h2⟩
    · exact ⟨0, fun h => absurd h hx⟩
  obtain ⟨f, hf⟩ := Classical.axiomOfChoice h1
  have := fb_holes k n f (fun x hx => (hf x hx).1) (fun i j hij hj e => by
    have e1 := (hf i (by omega)).2
    have e2 := (hf j hj).2
    rw [e] at e1
    omega)
  omega
theorem pm_pre_full {n g : Nat} {pre : Nat → Nat} (h : pm_pre n n g pre) : pm_P n (pm_mk n pre) := pm_mk_P (fun i hi => h.2.2.1 i hi) (fun i j hi hj e => h.2.2.2.1 i j hi hj e)
/-! what the class reckons -/
theorem nt_asGiven {n : Nat} {A : Nat → Nat → Bool} {rows at0 : Nat → Int32} {pre : Nat → Nat} (hn : n < 8) (h : nt_Rep n A rows) (hpre : ∀ i, i < n → pre i < n) (hat : ∀ i, i < n → at0 i = nI (pre i)) : M_X2_numberAsGiven (nI n) rows at0 = some (nI (nt_enc n (fun p q => A (pre p) (pre q)))) := by
  have inner : ∀ i, i < n → on_loop (fun (s : Int32 × Int32) => B_X2_numberAsGiven_17 (nI i) (nI n) rows at0 s.1 s.2) on_F (nI (nt_T n (fun p q => A (pre p) (pre q)) (nt_ix n i (i + 1))), nI (i + 1)) = some (nI (nt_T n (fun p q => A (pre p) (pre q)) (nt_ix n (i + 1) (i + 1 + 1)))) := by
    intro i hi
    refine ml_for (fun k => (nI (nt_T n (fun p q => A (pre p) (pre q)) (nt_ix n i (i + 1 + k))), nI (i + 1 + k))) (n - (i + 1)) (by omega) rfl (fun k hk => ?_) ?_
    · show B_X2_numberAsGiven_17 (nI i) (nI n) rows at0 (nI (nt_T n (fun p q => A (pre p) (pre q)) (nt_ix n i (i + 1 + k)))) (nI (i + 1 + k)) = _
      unfold B_X2_numberAsGiven_17
      have hT := nt_T_lt hn (fun p q => A (pre p) (pre q)) (nt_ix n i (i + 1 + k))
      rw [if_neg (nI_ge (by omega) (by omega)), ml_gi (by omega) (by omega), ml_gi (by omega) (by omega), nI_clamp (by omega), nI_clamp (by omega), hat i hi, hat (i + 1 + k) (by omega), nt_joined hn h (hpre i hi) (hpre (i + 1 + k) (by omega)), ml_b, ml_let, ml_let, nt_shl1 (by omega), nI_1, ← nt_T_succ (A := fun p q => A (pre p) (pre q)) (nt_PLix n hn (i + 1 + k) (by omega) i (by omega)).1, ← nt_ixS (by omega)]
      rfl
    · show B_X2_numberAsGiven_17 (nI i) (nI n) rows at0 (nI (nt_T n (fun p q => A (pre p) (pre q)) (nt_ix n i (i + 1 + (n - (i + 1)))))) (nI (i + 1 + (n - (i + 1)))) = _
      rw [show i + 1 + (n - (i + 1)) = n by omega]
      unfold B_X2_numberAsGiven_17
      rw [if_pos (nI_le (Nat.le_refl n) (by omega)), nt_ixN n hn i hi]
  unfold M_X2_numberAsGiven
  refine ml_bb (r := nI (nt_enc n (fun p q => A (pre p) (pre q)))) (ml_for (fun i => (nI (nt_T n (fun p q => A (pre p) (pre q)) (nt_ix n i (i + 1))), nI i)) n (by omega) (by rw [nt_ix0 n hn]; rfl) (fun i hi => ?_) ?_) rfl
  · show B_X2_numberAsGiven_4 (nI n) rows at0 (nI (nt_T n (fun p q => A (pre p) (pre q)) (nt_ix n i (i + 1)))) (nI i) = _
    unfold B_X2_numberAsGiven_4
    rw [if_neg (nI_ge hi (by omega)), ml_let, nI_1, inner i hi, ml_b, ml_let]
  · show B_X2_numberAsGiven_4 (nI n) rows at0 (nI (nt_T n (fun p q => A (pre p) (pre q)) (nt_ix n n (n + 1)))) (nI n) = _
    unfold B_X2_numberAsGiven_4
    rw [if_pos (nI_le (Nat.le_refl n) (by omega)), nt_ixE n hn]
    unfold nt_T nt_enc
    rw [← nt_PLlen n hn, List.take_length]
theorem nt_column {n k x : Nat} {A : Nat → Nat → Bool} {rows at0 : Nat → Int32} {pre : Nat → Nat} (hn : n < 8) (h : nt_Rep n A rows) (hk : k ≤ n) (hx : x < n) (hpre : ∀ i, i < k → pre i < n) (hat : ∀ i, i < k → at0 i = nI (pre i)) : M_X2_column (nI k) (nI x) rows at0 = some (nI (pm_e (fun i => A (pre i) x) k)) := by
  unfold M_X2_column
  refine ml_bb (r := nI (pm_e (fun i => A (pre i) x) k)) (ml_for (fun i => (nI (pm_e (fun i => A (pre i) x) i), nI i)) k (by omega) rfl (fun i hi => ?_) ?_) rfl
  · show B_X2_column_6 (nI k) (nI x) rows at0 (nI (pm_e (fun i => A (pre i) x) i)) (nI i) = _
    have hl := pm_e_lt (fun i => A (pre i) x) i
    have hl2 : 2 ^ i ≤ 2 ^ 7 := Nat.pow_le_pow_right (by decide) (by omega)
    have hp := hpre i hi
    unfold B_X2_column_6
    rw [if_neg (nI_ge hi (by omega)), ml_gi (by omega) (by omega), nI_clamp (by omega), hat i hi, ml_gi (by omega) (by omega), nI_clamp (by omega), h (pre i) hp, nt_shr _ (nt_mk_128 hn _) x (by omega), nt_mk_bit, ml_let, ml_let, nI_1, decide_eq_true hx, Bool.true_and, nt_shl1 (by omega)]
    rfl
  · show B_X2_column_6 (nI k) (nI x) rows at0 (nI (pm_e (fun i => A (pre i) x) k)) (nI k) = _
    unfold B_X2_column_6
    rw [if_pos (nI_le (Nat.le_refl _) (by omega))]
theorem nt_lowest {n k g : Nat} {A : Nat → Nat → Bool} {rows at0 : Nat → Int32} {pre : Nat → Nat} (hn : n < 8) (h : nt_Rep n A rows) (hp : pm_pre n k g pre) (hk : k < n) (hat : ∀ i, i < k → at0 i = nI (pre i)) : ∃ low, M_X2_lowestColumn (nI k) (nI g) (nI n) rows at0 = some (nI low) ∧ low < 128 ∧ (∀ x, x < n → g.testBit x = false → low ≤ pm_e (fun i => A (pre i) x) k) ∧ ∃ x, x < n ∧ g.testBit x = false ∧ pm_e (fun i => A (pre i) x) k = low := by
  have hcol : ∀ x, pm_e (fun i => A (pre i) x) k < 128 := fun x => Nat.lt_of_lt_of_le (pm_e_lt (fun i => A (pre i) x) k) (show 2 ^ k ≤ 2 ^ 7 from Nat.pow_le_pow_right (by decide) (by omega))
  have loop : ∃ r, on_loop (fun (s : Int32 × Int32) => B_X2_lowestColumn_8 (nI k) (nI g) (nI n) rows at0 s.1 s.2) on_F ((128 : Int32), (0 : Int32)) = some r ∧ ∃ low, r = nI low ∧ low ≤ 128 ∧ (∀ x, x < n → g.testBit x = false → low ≤ pm_e (fun i => A (pre i) x) k) ∧ (low = 128 ∨ ∃ x, x < n ∧ g.testBit x = false ∧ pm_e (fun i => A (pre i) x) k = low) := by
    refine ml_invF (fun i s => ∃ low, s = (nI low, nI i) ∧ low ≤ 128 ∧ (∀ x, x < i → g.testBit x = false → low ≤ pm_e (fun i => A (pre i) x) k) ∧ (low = 128 ∨ ∃ x, x < n ∧ g.testBit x = false ∧ pm_e (fun i => A (pre i) x) k = low)) _ n (by omega) (fun i s hi hs => ?_) (fun s hs => ?_) ⟨128, rfl, Nat.le_refl _, fun x hx => absurd hx (Nat.not_lt_zero x), Or.inl rfl⟩
    · obtain ⟨low, rfl, h1, h2, h3⟩ := hs
      left
      cases hb : g.testBit i with
      | true =>
        refine ⟨(nI low, nI (i + 1)), ?_, low, rfl, h1, fun x hx hf => ?_, h3⟩
        · show B_X2_lowestColumn_8 (nI k) (nI g) (nI n) rows at0 (nI low) (nI i) = _
          unfold B_X2_lowestColumn_8
          rw [if_neg (nI_ge hi (by omega)), nt_shr g hp.2.1 i (by omega), hb, if_neg (by decide), ml_let, nI_1]
        · by_cases e : x = i
          · rw [e, hb] at hf
            exact absurd hf (by decide)
          · exact h2 x (by omega) hf
      | false =>
        have hc := hcol i
        refine ⟨(nI (if pm_e (fun j => A (pre j) i) k < low then pm_e (fun j => A (pre j) i) k else low), nI (i + 1)), ?_, _, rfl, ?_, fun x hx hf => ?_, ?_⟩
        · show B_X2_lowestColumn_8 (nI k) (nI g) (nI n) rows at0 (nI low) (nI i) = _
          unfold B_X2_lowestColumn_8
          rw [if_neg (nI_ge hi (by omega)), nt_shr g hp.2.1 i (by omega), hb, if_pos nt_i0, nt_column hn h (by omega) hi hp.2.2.1 hat, ml_b, ml_let, ml_let, nI_1]
          by_cases c : pm_e (fun j => A (pre j) i) k < low
          · rw [if_pos (nI_lt c (by omega)), if_pos c]
          · rw [if_neg (nI_nlt (by omega) (by omega)), if_neg c]
        · split <;> omega
        · by_cases e : x = i
          · rw [e]
            split <;> omega
          · have := h2 x (by omega) hf
            split <;> omega
        · by_cases c : pm_e (fun j => A (pre j) i) k < low
          · rw [if_pos c]
            exact Or.inr ⟨i, hi, hb, rfl⟩
          · rw [if_neg c]
            exact h3
    · obtain ⟨low, rfl, h1, h2, h3⟩ := hs
      refine ⟨nI low, ?_, low, rfl, h1, h2, h3⟩
      show B_X2_lowestColumn_8 (nI k) (nI g) (nI n) rows at0 (nI low) (nI n) = _
      unfold B_X2_lowestColumn_8
      rw [if_pos (nI_le (Nat.le_refl _) (by omega))]
  obtain ⟨_, h1, low, rfl, h2, h3, h4⟩ := loop
  obtain ⟨x, hx, hf⟩ := pm_free hp hk
  have h5 := h3 x hx hf
  have h6 := hcol x
  refine ⟨low, ?_, by omega, h3, ?_⟩
  · unfold M_X2_lowestColumn
    rw [h1]
    rfl
  · rcases h4 with h4 | h4
    · omega
    · exact h4
theorem nt_twins {n x y : Nat} {A : Nat → Nat → Bool} {rows : Nat → Int32} (hn : n < 8) (h : nt_Rep n A rows) (hx : x < n) (hy : y < n) : ∃ b, M_X0_areTwins (nI x) (nI y) rows = some (nt_i b) ∧ (b = true → pm_tw n A x y) := by
  have ht : nt_mk n (A x) ^^^ nt_mk n (A y) < 128 := Nat.xor_lt_two_pow (n := 7) (nt_mk_128 hn _) (nt_mk_128 hn _)
  have hs : 2 ^ x ||| 2 ^ y < 128 := Nat.or_lt_two_pow (n := 7) (Nat.pow_lt_pow_right (by decide) (by omega)) (Nat.pow_lt_pow_right (by decide) (by omega))
  unfold M_X0_areTwins
  rw [ml_gi (by omega) (by omega), ml_gi (by omega) (by omega), nI_clamp (by omega), nI_clamp (by omega), h x hx, h y hy, fb_xorI, nt_sh1 x (by omega), nt_sh1 y (by omega), fa_or, nt_not _ hs _ ht]
  have hl : (nt_mk n (A x) ^^^ nt_mk n (A y)) &&& (127 ^^^ (2 ^ x ||| 2 ^ y)) < 128 := Nat.lt_of_le_of_lt Nat.and_le_left ht
  by_cases c : (nt_mk n (A x) ^^^ nt_mk n (A y)) &&& (127 ^^^ (2 ^ x ||| 2 ^ y)) = 0
  · rw [c, nI_0, if_pos rfl]
    refine ⟨true, rfl, fun _ j hj h1 h2 => ?_⟩
    have e := congrArg (fun z => z.testBit j) c
    simp only [Nat.testBit_and, Nat.testBit_xor, nt_127, Nat.testBit_or, Nat.testBit_two_pow, nt_mk_bit, Nat.zero_testBit] at e
    rw [decide_eq_true hj, decide_eq_true (show j < 7 by omega), decide_eq_false (show ¬ x = j from fun z => h1 z.symm), decide_eq_false (show ¬ y = j from fun z => h2 z.symm)] at e
    revert e
    cases A x j <;> cases A y j <;> simp
  · rw [if_neg (by rw [nt_n0]; exact fun z => c ((nI_eq (by omega) (by omega)).mp z))]
    exact ⟨false, rfl, fun z => absurd z (by decide)⟩
theorem nt_hasTwin {n x T : Nat} {A : Nat → Nat → Bool} {rows : Nat → Int32} (hn : n < 8) (h : nt_Rep n A rows) (hx : x < n) (hT : T < 128) : ∃ b, M_X2_hasTwin (nI x) (nI T) (nI n) rows = some (nt_i b) ∧ (b = true → ∃ y, y < n ∧ T.testBit y = true ∧ pm_tw n A x y) := by
  have loop : ∃ r, on_loop (fun (s : Int32) => B_X2_hasTwin_2 (nI x) (nI T) (nI n) rows s) on_F (0 : Int32) = some r ∧ (r = Sum.inr () ∨ (r = Sum.inl 1 ∧ ∃ y, y < n ∧ T.testBit y = true ∧ pm_tw n A x y)) := by
    refine ml_invF (fun i s => s = nI i) _ n (by omega) (fun i s hi hs => ?_) (fun s hs => ?_) rfl
    · subst hs
      cases hb : T.testBit i with
      | false =>
        refine Or.inl ⟨nI (i + 1), ?_, rfl⟩
        unfold B_X2_hasTwin_2
        rw [if_neg (nI_ge hi (by omega)), nt_shr T hT i (by omega), hb, if_neg (by decide), ml_let, nI_1]
      | true =>
        obtain ⟨b, h1, h2⟩ := nt_twins hn h hx hi
        cases b with
        | false =>
          refine Or.inl ⟨nI (i + 1), ?_, rfl⟩
          unfold B_X2_hasTwin_2
          rw [if_neg (nI_ge hi (by omega)), nt_shr T hT i (by omega), hb, if_pos nt_i1, h1, ml_b, if_pos nt_i0, ml_let, nI_1]
        | true =>
          refine Or.inr ⟨_, ?_, Or.inr ⟨rfl, i, hi, hb, h2 rfl⟩⟩
          unfold B_X2_hasTwin_2
          rw [if_neg (nI_ge hi (by omega)), nt_shr T hT i (by omega), hb, if_pos nt_i1, h1, ml_b, if_neg (by decide)]
    · subst hs
      refine ⟨_, ?_, Or.inl rfl⟩
      unfold B_X2_hasTwin_2
      rw [if_pos (nI_le (Nat.le_refl _) (by omega))]
  obtain ⟨r, h1, h2⟩ := loop
  unfold M_X2_hasTwin
  rw [h1, ml_b]
  rcases h2 with rfl | ⟨rfl, h2⟩
  · exact ⟨false, rfl, fun z => absurd z (by decide)⟩
  · exact ⟨true, rfl, fun _ => h2⟩
