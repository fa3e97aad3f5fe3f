/-! ===== small numbers, bit by bit: closed by the kernel ===== -/
def nt_i (b : Bool) : Int32 := if b then 1 else 0
theorem nt_i_n (b : Bool) : nt_i b = nI b.toNat := by cases b <;> decide
theorem nt_i0 : nt_i false = 0 := rfl
theorem nt_i1 : nt_i true = 1 := rfl
theorem nt_i_0 {b : Bool} : nt_i b = 0 ↔ b = false := by cases b <;> decide
theorem nt_i_1 {b : Bool} : nt_i b = 1 ↔ b = true := by cases b <;> decide
theorem nt_i_inj {a b : Bool} : nt_i a = nt_i b ↔ a = b := by cases a <;> cases b <;> decide
theorem nt_isb (b : Bool) : on_isb (nt_i b) = true := by cases b <;> decide
theorem nt_or_x (a b c : Bool) : ((nt_i a ^^^ nt_i b) ^^^ nt_i c = 1) ↔ ((a ^^ b ^^ c) = true) := by cases a <;> cases b <;> cases c <;> decide
theorem nt_n0 : (0 : Int32) = nI 0 := nI_0.symm
theorem nt_n1 : (1 : Int32) = nI 1 := by decide
theorem nt_n2 : (2 : Int32) = nI 2 := by decide
theorem nt_n3 : (3 : Int32) = nI 3 := by decide
theorem nt_shr : ∀ k, k < 128 → ∀ q, q < 8 → (nI k >>> (nI q &&& 31)) &&& (1 : Int32) = nt_i (k.testBit q) := by decide +kernel
theorem nt_clr : ∀ k, k < 128 → ∀ q, q < 7 → nI k &&& (((1 : Int32) <<< (nI q &&& 31)) ^^^ (-1 : Int32)) = nI (k &&& (127 ^^^ 2 ^ q)) := by decide +kernel
theorem nt_setb : ∀ k, k < 128 → ∀ q, q < 7 → nI k ||| ((1 : Int32) <<< (nI q &&& 31)) = nI (k ||| 2 ^ q) := by decide +kernel
theorem nt_all : ∀ n, n < 8 → ((1 : Int32) <<< (nI n &&& 31)) - (1 : Int32) = nI (2 ^ n - 1) := by decide +kernel
theorem nt_sh1 : ∀ n, n < 30 → (1 : Int32) <<< (nI n &&& 31) = nI (2 ^ n) := by decide +kernel
theorem nt_rest : ∀ n, n < 8 → ∀ s, s < 128 → nI (2 ^ n - 1) &&& (nI s ^^^ (-1 : Int32)) = nI ((2 ^ n - 1) &&& (127 ^^^ s)) := by decide +kernel
theorem nt_not : ∀ s, s < 128 → ∀ t, t < 128 → nI t &&& (nI s ^^^ (-1 : Int32)) = nI (t &&& (127 ^^^ s)) := by decide +kernel
theorem nt_pairsOf : ∀ n, n < 8 → M_X5_pairsOf (nI n) = some (nI (nt_np n)) := by decide +kernel
theorem nt_popc : ∀ k, k < 128 → M_J6_bitCount_0f7a4 (nI k) = some (nI (fb_ct (fun j => k.testBit j) 7)) := by decide +kernel
theorem nt_127 (j : Nat) : Nat.testBit 127 j = decide (j < 7) := Nat.testBit_two_pow_sub_one 7 j
theorem nt_np_lt : ∀ n, n < 8 → nt_np n < 22 := by decide +kernel
theorem nt_num_lt {n a : Nat} (hn : n < 8) (h : a < 2 ^ nt_np n) : a < 2 ^ 21 := Nat.lt_of_lt_of_le h (Nat.pow_le_pow_right (by decide) (by have := nt_np_lt n hn; omega))
theorem nt_shl1 {x : Nat} (hx : x < 2 ^ 29) (b : Bool) : (nI x <<< ((1 : Int32) &&& 31)) ||| nt_i b = nI (2 * x + b.toNat) := by
  rw [pk_shlN (n := x) ((1 : Int32) &&& 31) 1 (by decide) (by omega), nt_i_n]
  have h := fa_or_sum (a := b.toNat) (k := 1) x (by cases b <;> decide)
  rw [show x * 2 ^ 1 = 2 ^ 1 * x by omega, h]
theorem nt_ct_cut {f : Nat → Bool} {n : Nat} : ∀ {m : Nat}, n ≤ m → fb_ct (fun j => decide (j < n) && f j) m = fb_ct f n := by
  intro m
  induction m with
  | zero =>
    intro h
    have : n = 0 := by omega
    subst this
    rfl
  | succ m ih =>
    intro h
    rw [fb_ct_succ]
    by_cases hm : n ≤ m
    · rw [ih hm]
      have : ¬ m < n := by omega
      simp [this]
    · have e : n = m + 1 := by omega
      subst e
      rw [fb_ct_succ]
      have h1 : fb_ct (fun j => decide (j < m + 1) && f j) m = fb_ct f m := fb_ct_cong (fun k hk => by simp [show k < m + 1 by omega])
      rw [h1]
      simp
/-- the count of a small number whose signs are known -/
theorem nt_pop {n k : Nat} {f : Nat → Bool} (hn : n < 8) (hk : k < 128) (h : ∀ j, j < 7 → k.testBit j = (decide (j < n) && f j)) : M_J6_bitCount_0f7a4 (nI k) = some (nI (fb_ct f n)) := by
  rw [nt_popc k hk, fb_ct_cong (q := fun j => decide (j < n) && f j) h, nt_ct_cut (by omega)]
theorem nt_fill {k : Nat} (hk : k < 6000) (f : Nat → Int32) : M_J7_fill_53178 k 0 f = some (fa_fill (fun _ => 0) f k) := by
  unfold M_J7_fill_53178
  rw [ml_let]
  have h := ml_for (f := fun (s : Int32 × (Nat → Int32)) => B_J7_fill_53178_5 k 0 (Int32.ofNat k) s.1 s.2) (s0 := ((0 : Int32), f)) (r := fa_fill (fun _ => 0) f k) (fun i => (nI i, fa_fill (fun _ => (0 : Int32)) f i)) k hk (by rw [nI_0, fa_fill_0])
    (fun i hi => by
      show B_J7_fill_53178_5 k 0 (nI k) (nI i) (fa_fill (fun _ => 0) f i) = _
      unfold B_J7_fill_53178_5
      rw [if_neg (nI_ge hi (by omega)), ml_gi hi (by omega), ml_let, nI_1, nI_clamp (by omega)]
      have e := fa_fill_succ (fun _ => (0 : Int32)) f i
      rw [e])
    (by
      show B_J7_fill_53178_5 k 0 (nI k) (nI k) (fa_fill (fun _ => 0) f k) = _
      unfold B_J7_fill_53178_5
      rw [if_pos (nI_le (Nat.le_refl k) (by omega))])
  rw [h]
  rfl
/-! ===== a net in rows ===== -/
def nt_G (A : Nat → Nat → Bool) : Prop := (∀ p q, A p q = A q p) ∧ ∀ p, A p p = false
def nt_Rep (n : Nat) (A : Nat → Nat → Bool) (rows : Nat → Int32) : Prop := ∀ i, i < n → rows i = nI (nt_mk n (A i))
theorem nt_Rep.congr {n : Nat} {A B : Nat → Nat → Bool} {rows : Nat → Int32} (h : nt_Rep n A rows) (e : ∀ i j, i < n → j < n → A i j = B i j) : nt_Rep n B rows := fun i hi => by
  rw [h i hi, nt_mk_congr (fun j hj => e i j hi hj)]
theorem nt_joined {n : Nat} {A : Nat → Nat → Bool} {rows : Nat → Int32} (hn : n < 8) (h : nt_Rep n A rows) {p q : Nat} (hp : p < n) (hq : q < n) : M_X0_joined (nI p) (nI q) rows = some (nt_i (A p q)) := by
  unfold M_X0_joined
  rw [ml_gi (by omega) (by omega), nI_clamp (by omega), h p hp, nt_shr _ (nt_mk_128 hn _) q (by omega), nt_mk_bit]
  simp [hq]
theorem nt_degree {n : Nat} {A : Nat → Nat → Bool} {rows : Nat → Int32} (hn : n < 8) (h : nt_Rep n A rows) {p : Nat} (hp : p < n) : M_X0_degree (nI p) rows = some (nI (fb_ct (A p) n)) := by
  unfold M_X0_degree
  rw [ml_gi (by omega) (by omega), nI_clamp (by omega), h p hp, nt_pop hn (nt_mk_128 hn _) (fun j _ => nt_mk_bit n (A p) j)]
  rfl
theorem nt_shared {n : Nat} {A : Nat → Nat → Bool} {rows : Nat → Int32} (hn : n < 8) (h : nt_Rep n A rows) {p q : Nat} (hp : p < n) (hq : q < n) : M_X0_shared (nI p) (nI q) rows = some (nI (fb_ct (fun j => A p j && A q j) n)) := by
  unfold M_X0_shared
  rw [ml_gi (by omega) (by omega), ml_gi (by omega) (by omega), nI_clamp (by omega), nI_clamp (by omega), h p hp, h q hq, fa_and]
  have h1 : nt_mk n (A p) &&& nt_mk n (A q) < 128 := Nat.lt_of_le_of_lt Nat.and_le_left (nt_mk_128 hn _)
  rw [nt_pop (f := fun j => A p j && A q j) hn h1 (fun j _ => by
    rw [Nat.testBit_and, nt_mk_bit, nt_mk_bit]
    cases decide (j < n) <;> simp)]
  rfl
def nt_set (A : Nat → Nat → Bool) (p q : Nat) (b : Bool) : Nat → Nat → Bool := fun i j => if (i = p ∧ j = q) ∨ (i = q ∧ j = p) then b else A i j
theorem nt_connect {n : Nat} {A : Nat → Nat → Bool} {rows : Nat → Int32} (hn : n < 8) (h : nt_Rep n A rows) {p q : Nat} (hp : p < n) (hq : q < n) (hne : p ≠ q) (b : Bool) : ∃ rows', M_X0_connect (nI p) (nI q) (nt_i b) rows = some rows' ∧ nt_Rep n (nt_set A p q b) rows' := by
  have kp := nt_mk_128 hn (A p)
  have kq := nt_mk_128 hn (A q)
  have key : ∀ (x y : Nat), (∀ j, x.testBit j = (decide (j < n) && nt_set A p q b p j)) → (∀ j, y.testBit j = (decide (j < n) && nt_set A p q b q j)) → nt_Rep n (nt_set A p q b) (upd (upd rows p (nI x)) q (nI y)) := by
    intro x y hx hy i hi
    have ex : x = nt_mk n (nt_set A p q b p) := Nat.eq_of_testBit_eq (fun j => by rw [hx, nt_mk_bit])
    have ey : y = nt_mk n (nt_set A p q b q) := Nat.eq_of_testBit_eq (fun j => by rw [hy, nt_mk_bit])
    by_cases h1 : i = q
    · subst h1
      rw [pk_us, ey]
    · rw [pk_un h1]
      by_cases h2 : i = p
      · subst h2
        rw [pk_us, ex]
      · rw [pk_un h2, h i hi]
        congr 1
        apply nt_mk_congr
        intro j _
        unfold nt_set
        rw [if_neg]
        rintro (⟨h3, -⟩ | ⟨h3, -⟩)
        · exact h2 h3
        · exact h1 h3
  cases b with
  | false =>
    refine ⟨_, ?_, key (nt_mk n (A p) &&& (127 ^^^ 2 ^ q)) (nt_mk n (A q) &&& (127 ^^^ 2 ^ p)) ?_ ?_⟩
    · unfold M_X0_connect
      rw [if_pos nt_i0, ml_gi (by omega) (by omega), ml_gi (by omega) (by omega), ml_gi (by omega) (by omega), ml_gi (by omega) (by omega), nI_clamp (by omega), nI_clamp (by omega), pk_un (fun e => hne e.symm), h p hp, h q hq, nt_clr _ kp q (by omega), nt_clr _ kq p (by omega)]
    · intro j
      rw [Nat.testBit_and, nt_mk_bit, Nat.testBit_xor, nt_127, Nat.testBit_two_pow]
      unfold nt_set
      by_cases hj : j < n
      · by_cases hjq : q = j
        · subst hjq
          simp [show q < 7 by omega]
        · have : ¬ ((p = p ∧ j = q) ∨ (p = q ∧ j = p)) := by omega
          rw [if_neg this]
          simp [hj, hjq, show j < 7 by omega]
      · simp [hj]
    · intro j
      rw [Nat.testBit_and, nt_mk_bit, Nat.testBit_xor, nt_127, Nat.testBit_two_pow]
      unfold nt_set
      by_cases hj : j < n
      · by_cases hjq : p = j
        · subst hjq
          simp [show p < 7 by omega]
        · have : ¬ ((q = p ∧ j = q) ∨ (q = q ∧ j = p)) := by omega
          rw [if_neg this]
          simp [hj, hjq, show j < 7 by omega]
      · simp [hj]
  | true =>
    refine ⟨_, ?_, key (nt_mk n (A p) ||| 2 ^ q) (nt_mk n (A q) ||| 2 ^ p) ?_ ?_⟩
    · unfold M_X0_connect
      rw [if_neg (show ¬ nt_i true = 0 by decide), ml_gi (by omega) (by omega), ml_gi (by omega) (by omega), ml_gi (by omega) (by omega), ml_gi (by omega) (by omega), nI_clamp (by omega), nI_clamp (by omega), pk_un (fun e => hne e.symm), h p hp, h q hq, nt_setb _ kp q (by omega), nt_setb _ kq p (by omega)]
    · intro j
      rw [Nat.testBit_or, nt_mk_bit, Nat.testBit_two_pow]
      unfold nt_set
      by_cases hj : j < n
      · by_cases hjq : q = j
        · subst hjq
          simp [hj]
        · have : ¬ ((p = p ∧ j = q) ∨ (p = q ∧ j = p)) := by omega
          rw [if_neg this]
          simp [hj, hjq]
      · simp [hj, show ¬ q = j by omega]
    · intro j
      rw [Nat.testBit_or, nt_mk_bit, Nat.testBit_two_pow]
      unfold nt_set
      by_cases hj : j < n
      · by_cases hjq : p = j
        · subst hjq
          simp [hj]
        · have : ¬ ((q = p ∧ j = q) ∨ (q = q ∧ j = p)) := by omega
          rw [if_neg this]
          simp [hj, hjq]
      · simp [hj, show ¬ p = j by omega]
