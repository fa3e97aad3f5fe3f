/-! ===== roots: both tables are worked out alike ===== -/
theorem ml_inv2 {σ ρ τ π : Type} {f : σ → Option (σ ⊕ ρ)} {g : τ → Option (τ ⊕ π)} (I : Nat → σ → τ → Prop) (post : ρ → π → Prop) (N : Nat)
    (step : ∀ i s t, i < N → I i s t → ∃ s' t', f s = some (Sum.inl s') ∧ g t = some (Sum.inl t') ∧ I (i + 1) s' t')
    (fin : ∀ s t, I N s t → ∃ r r', f s = some (Sum.inr r) ∧ g t = some (Sum.inr r') ∧ post r r') : ∀ (k i F : Nat) (s : σ) (t : τ), i + k = N → k < F → I i s t → ∃ r r', on_loop f F s = some r ∧ on_loop g F t = some r' ∧ post r r'
  | 0, i, F, s, t, h, hF, hI => by
    obtain ⟨F', rfl⟩ : ∃ F', F = F' + 1 := ⟨F - 1, by omega⟩
    have e : i = N := by omega
    subst e
    obtain ⟨r, r', h1, h2, h3⟩ := fin s t hI
    exact ⟨r, r', ml_inr h1, ml_inr h2, h3⟩
  | k + 1, i, F, s, t, h, hF, hI => by
    obtain ⟨F', rfl⟩ : ∃ F', F = F' + 1 := ⟨F - 1, by omega⟩
    obtain ⟨s', t', h1, h2, h3⟩ := step i s t (by omega) hI
    obtain ⟨r, r', h4, h5, h6⟩ := ml_inv2 I post N step fin k (i + 1) F' s' t' (by omega) (by omega) h3
    exact ⟨r, r', by rw [ml_inl h1]; exact h4, by rw [ml_inl h2]; exact h5, h6⟩
theorem lg_cmp0 (x : Int64) : lg_cmp x 0 = 0 ↔ x = 0 := by
  unfold lg_cmp
  by_cases h1 : x > 0
  · rw [if_pos h1]
    constructor
    · intro h
      exact absurd h (by decide)
    · intro h
      rw [h] at h1
      exact absurd h1 (by decide)
  · rw [if_neg h1]
    by_cases h2 : x = 0
    · rw [if_pos h2]
      exact ⟨fun _ => h2, fun _ => rfl⟩
    · rw [if_neg h2]
      exact ⟨fun h => absurd h (by decide), fun h => absurd h h2⟩
theorem l0_div (x : Int64) : (0 : Int64) / x = 0 := by
  apply Int64.toInt_inj.mp
  rw [Int64.toInt_div]
  simp
theorem on_up2_at (M : Nat → Nat → Int64) (i j : Nat) (x : Int64) (a b : Nat) : on_up2 M i (vp_updL (M i) j x) a b = if a = i ∧ b = j then x else M a b := by
  show (if a = i then (fun k => if k = j then x else M i k) else M a) b = _
  by_cases h1 : a = i
  · rw [if_pos h1]
    show (if b = j then x else M i b) = _
    by_cases h2 : b = j
    · rw [if_pos h2, if_pos ⟨h1, h2⟩]
    · rw [if_neg h2, if_neg (fun z => h2 z.2), h1]
  · rw [if_neg h1, if_neg (fun z => h1 z.1)]
theorem n7 : (7 : Int32) = nI 7 := by decide
theorem i7 {n i j : Nat} (hn : n < 8) (hi : i < n) (hj : j < n) : ((7 : Int32) * nI i) + nI j = nI (7 * i + j) ∧ 7 * i + j < 49 := by
  rw [n7, nI_mul, nI_add]
  exact ⟨rfl, by omega⟩
theorem j7 {n i j a b : Nat} (hn : n < 8) (hj : j < n) (hb : b < n) : 7 * i + j = 7 * a + b ↔ (i = a ∧ j = b) := by omega
def rt_T (v : Int32) (A : Nat → Nat → Bool) (i j : Nat) : Int64 := if i = j then Int32.toInt64 (-v) else Int32.toInt64 ((1 : Int32) - ((2 : Int32) * nt_i (A i j)))
theorem nt_fillT {n : Nat} {A : Nat → Nat → Bool} {rows : Nat → Int32} (hn : n < 8) (h : nt_Rep n A rows) (v : Int32) (cells : Nat → Nat → Int64) : ∃ cells', M_X4_fill v cells (nI n) rows = some (nI n, cells') ∧ ∀ i j, i < n → j < n → cells' i j = rt_T v A i j := by
  have inner : ∀ i, i < n → ∀ cells : Nat → Nat → Int64, (∀ p q, p < i → q < n → cells p q = rt_T v A p q) → ∃ r, on_loop (fun (s : Int32 × (Nat → Nat → Int64)) => B_X4_fill_21 v (nI i) (nI n) rows s.1 s.2) on_F ((0 : Int32), cells) = some r ∧ ∀ p q, p < i + 1 → q < n → r p q = rt_T v A p q := by
    intro i hi cells hc
    refine ml_invF (fun k s => ∃ M, s = (nI k, M) ∧ ∀ p q, (p < i ∨ (p = i ∧ q < k)) → q < n → M p q = rt_T v A p q) _ n (by omega) (fun k s hk hs => ?_) (fun s hs => ?_) ⟨cells, rfl, fun p q h1 h2 => hc p q (by omega) h2⟩
    · obtain ⟨M, rfl, hM⟩ := hs
      left
      refine ⟨(nI (k + 1), on_up2 M i (vp_updL (M i) k (rt_T v A i k))), ?_, _, rfl, fun p q h1 h2 => ?_⟩
      · show B_X4_fill_21 v (nI i) (nI n) rows (nI k) M = _
        unfold B_X4_fill_21 rt_T
        rw [if_neg (nI_ge hk (by omega)), ml_gi (by omega) (by omega)]
        by_cases e : i = k
        · rw [if_pos (by rw [e]), if_pos e, ml_gi (by omega) (by omega), ml_let, ml_let, nI_1, nI_clamp (by omega), nI_clamp (by omega)]
        · rw [if_neg (fun z => e ((nI_eq (by omega) (by omega)).mp z)), if_neg e, nt_joined hn h hi hk, ml_b, ml_gi (by omega) (by omega), ml_let, ml_let, nI_1, nI_clamp (by omega), nI_clamp (by omega)]
      · rw [on_up2_at]
        by_cases e : p = i ∧ q = k
        · rw [if_pos e, e.1, e.2]
        · rw [if_neg e]
          exact hM p q (by omega) h2
    · obtain ⟨M, rfl, hM⟩ := hs
      refine ⟨M, ?_, fun p q h1 h2 => hM p q (by omega) h2⟩
      show B_X4_fill_21 v (nI i) (nI n) rows (nI n) M = _
      unfold B_X4_fill_21
      rw [if_pos (nI_le (Nat.le_refl _) (by omega))]
  have outer : ∃ r, on_loop (fun (s : Int32 × (Nat → Nat → Int64)) => B_X4_fill_10 v (nI n) rows s.1 s.2) on_F ((0 : Int32), cells) = some r ∧ ∀ p q, p < n → q < n → r p q = rt_T v A p q := by
    refine ml_invF (fun i s => ∃ M, s = (nI i, M) ∧ ∀ p q, p < i → q < n → M p q = rt_T v A p q) _ n (by omega) (fun i s hi hs => ?_) (fun s hs => ?_) ⟨cells, rfl, fun p q h1 => absurd h1 (Nat.not_lt_zero p)⟩
    · obtain ⟨M, rfl, hM⟩ := hs
      left
      obtain ⟨r, h1, h2⟩ := inner i hi M hM
      refine ⟨(nI (i + 1), r), ?_, r, rfl, h2⟩
      show B_X4_fill_10 v (nI n) rows (nI i) M = _
      unfold B_X4_fill_10
      rw [if_neg (nI_ge hi (by omega)), h1, ml_b, ml_let, nI_1]
    · obtain ⟨M, rfl, hM⟩ := hs
      refine ⟨M, ?_, hM⟩
      show B_X4_fill_10 v (nI n) rows (nI n) M = _
      unfold B_X4_fill_10
      rw [if_pos (nI_le (Nat.le_refl _) (by omega))]
  obtain ⟨r, h1, h2⟩ := outer
  refine ⟨r, ?_, h2⟩
  unfold M_X4_fill
  rw [h1]
  rfl
theorem nt_layTable {n a : Nat} {st : Nat → Int32} (hn : n < 8) (hs : st 0 = nI n) (v : Int32) (tb : Nat → Int64) : ∃ tb', M_X6_layTable (nI a) v st tb = some tb' ∧ ∀ i j, i < n → j < n → tb' (7 * i + j) = rt_T v (nt_adj n a) i j := by
  have inner : ∀ i, i < n → ∀ tb : Nat → Int64, (∀ p q, p < i → q < n → tb (7 * p + q) = rt_T v (nt_adj n a) p q) → ∃ r, on_loop (fun (s : Int32 × (Nat → Int64)) => B_X6_layTable_13 (nI a) v (nI i) st s.1 s.2) on_F ((0 : Int32), tb) = some r ∧ ∀ p q, p < i + 1 → q < n → r (7 * p + q) = rt_T v (nt_adj n a) p q := by
    intro i hi tb hc
    refine ml_invF (fun k s => ∃ M, s = (nI k, M) ∧ ∀ p q, (p < i ∨ (p = i ∧ q < k)) → q < n → M (7 * p + q) = rt_T v (nt_adj n a) p q) _ n (by omega) (fun k s hk hs2 => ?_) (fun s hs2 => ?_) ⟨tb, rfl, fun p q h1 h2 => hc p q (by omega) h2⟩
    · obtain ⟨M, rfl, hM⟩ := hs2
      left
      obtain ⟨x1, x2⟩ := i7 hn hi hk
      refine ⟨(nI (k + 1), vp_updL M (7 * i + k) (rt_T v (nt_adj n a) i k)), ?_, _, rfl, fun p q h1 h2 => ?_⟩
      · show B_X6_layTable_13 (nI a) v (nI i) st (nI k) M = _
        unfold B_X6_layTable_13 rt_T
        rw [nt_many hs, ml_b, if_neg (nI_ge hk (by omega)), x1, ml_b]
        by_cases e : i = k
        · rw [if_pos (by rw [e]), if_pos e, ml_gi x2 (by omega), ml_let, nI_1, nI_clamp (by omega)]
        · rw [if_neg (fun z => e ((nI_eq (by omega) (by omega)).mp z)), if_neg e, nt_mjoined hn hi hk, ml_b, ml_gi x2 (by omega), ml_let, nI_1, nI_clamp (by omega)]
      · unfold vp_updL
        by_cases e : p = i ∧ q = k
        · rw [if_pos (by rw [e.1, e.2]), e.1, e.2]
        · rw [if_neg (fun z => e ((j7 hn h2 hk).mp z))]
          exact hM p q (by omega) h2
    · obtain ⟨M, rfl, hM⟩ := hs2
      refine ⟨M, ?_, fun p q h1 h2 => hM p q (by omega) h2⟩
      show B_X6_layTable_13 (nI a) v (nI i) st (nI n) M = _
      unfold B_X6_layTable_13
      rw [nt_many hs, ml_b, if_pos (nI_le (Nat.le_refl _) (by omega))]
  have outer : ∃ r, on_loop (fun (s : Int32 × (Nat → Int64)) => B_X6_layTable_2 (nI a) v st s.1 s.2) on_F ((0 : Int32), tb) = some r ∧ ∀ p q, p < n → q < n → r (7 * p + q) = rt_T v (nt_adj n a) p q := by
    refine ml_invF (fun i s => ∃ M, s = (nI i, M) ∧ ∀ p q, p < i → q < n → M (7 * p + q) = rt_T v (nt_adj n a) p q) _ n (by omega) (fun i s hi hs2 => ?_) (fun s hs2 => ?_) ⟨tb, rfl, fun p q h1 => absurd h1 (Nat.not_lt_zero p)⟩
    · obtain ⟨M, rfl, hM⟩ := hs2
      left
      obtain ⟨r, h1, h2⟩ := inner i hi M hM
      refine ⟨(nI (i + 1), r), ?_, r, rfl, h2⟩
      show B_X6_layTable_2 (nI a) v st (nI i) M = _
      unfold B_X6_layTable_2
      rw [nt_many hs, ml_b, if_neg (nI_ge hi (by omega)), h1, ml_b, ml_let, nI_1]
    · obtain ⟨M, rfl, hM⟩ := hs2
      refine ⟨M, ?_, hM⟩
      show B_X6_layTable_2 (nI a) v st (nI n) M = _
      unfold B_X6_layTable_2
      rw [nt_many hs, ml_b, if_pos (nI_le (Nat.le_refl _) (by omega))]
  obtain ⟨r, h1, h2⟩ := outer
  refine ⟨r, ?_, h2⟩
  unfold M_X6_layTable
  rw [h1]
  rfl
theorem nt_pivotRow {n c rk : Nat} (hn : n < 8) (hc : c < n) (hr : rk ≤ n) (M : Nat → Nat → Int64) : ∃ r, M_X4_pivotRow (nI c) (nI n) (nI rk) M = some (nI r) ∧ rk ≤ r ∧ r ≤ n ∧ (∀ i, rk ≤ i → i < r → M i c = 0) ∧ (r < n → M r c ≠ 0) := by
  have loop : ∃ r, on_loop (fun (s : Int32) => B_X4_pivotRow_5 (nI c) (nI n) M s) on_F (nI rk) = some r ∧ ∃ k, r = nI k ∧ rk ≤ k ∧ k ≤ n ∧ (∀ i, rk ≤ i → i < k → M i c = 0) ∧ (k < n → M k c ≠ 0) := by
    refine ml_invF (fun i s => s = nI (rk + i) ∧ ∀ j, rk ≤ j → j < rk + i → M j c = 0) _ (n - rk) (by omega) (fun i s hi hs => ?_) (fun s hs => ?_) ⟨rfl, fun j h1 h2 => by omega⟩
    · obtain ⟨rfl, h0⟩ := hs
      by_cases e : M (rk + i) c = 0
      · refine Or.inl ⟨nI (rk + (i + 1)), ?_, rfl, fun j h1 h2 => ?_⟩
        · unfold B_X4_pivotRow_5
          rw [if_neg (nI_ge (show rk + i < n by omega) (by omega)), ml_gi (by omega) (by omega), ml_gi (by omega) (by omega), nI_clamp (by omega), nI_clamp (by omega), if_pos ((lg_cmp0 _).mpr e), ml_let, nI_1]
          rfl
        · by_cases ej : j = rk + i
          · rw [ej]; exact e
          · exact h0 j h1 (by omega)
      · refine Or.inr ⟨_, ?_, rk + i, rfl, by omega, by omega, h0, fun _ => e⟩
        unfold B_X4_pivotRow_5
        rw [if_neg (nI_ge (show rk + i < n by omega) (by omega)), ml_gi (by omega) (by omega), ml_gi (by omega) (by omega), nI_clamp (by omega), nI_clamp (by omega), if_neg (fun z => e ((lg_cmp0 _).mp z))]
    · obtain ⟨rfl, h0⟩ := hs
      rw [show rk + (n - rk) = n by omega] at h0 ⊢
      refine ⟨_, ?_, n, rfl, by omega, by omega, h0, fun z => absurd z (Nat.lt_irrefl n)⟩
      unfold B_X4_pivotRow_5
      rw [if_pos (nI_le (Nat.le_refl _) (by omega))]
  obtain ⟨_, h1, k, rfl, h2⟩ := loop
  refine ⟨k, ?_, h2⟩
  unfold M_X4_pivotRow
  rw [h1]
  rfl
theorem nt_rowWith {n c rk r : Nat} {st : Nat → Int32} {tb : Nat → Int64} (hn : n < 8) (hs : st 0 = nI n) (hc : c < n) (hr0 : rk ≤ r) (hr : r ≤ n) (hz : ∀ i, rk ≤ i → i < r → tb (7 * i + c) = 0) (hp : r < n → tb (7 * r + c) ≠ 0) : M_X6_rowWith (nI c) (nI rk) st tb = some (if r < n then nI r else -6) := by
  have loop : ∃ t, on_loop (fun (s : Int32) => B_X6_rowWith_2 (nI c) st tb s) on_F (nI rk) = some t ∧ ((r < n ∧ t = Sum.inl (nI r)) ∨ (¬ r < n ∧ t = Sum.inr ())) := by
    refine ml_invF (fun i s => s = nI (rk + i)) _ (r - rk) (by omega) (fun i s hi hs2 => ?_) (fun s hs2 => ?_) rfl
    · subst hs2
      obtain ⟨x1, x2⟩ := i7 hn (show rk + i < n by omega) hc
      refine Or.inl ⟨nI (rk + (i + 1)), ?_, rfl⟩
      unfold B_X6_rowWith_2
      rw [nt_many hs, ml_b, if_neg (nI_ge (show rk + i < n by omega) (by omega)), x1, ml_gi x2 (by omega), nI_clamp (by omega), if_pos ((lg_cmp0 _).mpr (hz _ (by omega) (by omega))), ml_let, nI_1]
      rfl
    · subst hs2
      rw [show rk + (r - rk) = r by omega]
      by_cases e : r < n
      · obtain ⟨x1, x2⟩ := i7 hn e hc
        refine ⟨_, ?_, Or.inl ⟨e, rfl⟩⟩
        unfold B_X6_rowWith_2
        rw [nt_many hs, ml_b, if_neg (nI_ge e (by omega)), x1, ml_gi x2 (by omega), nI_clamp (by omega), if_neg (fun z => hp e ((lg_cmp0 _).mp z))]
      · refine ⟨_, ?_, Or.inr ⟨e, rfl⟩⟩
        unfold B_X6_rowWith_2
        rw [nt_many hs, ml_b, if_pos (nI_le (by omega) (by omega))]
  obtain ⟨t, h1, h2⟩ := loop
  unfold M_X6_rowWith
  rw [h1, ml_b]
  rcases h2 with ⟨e, rfl⟩ | ⟨e, rfl⟩
  · rw [if_pos e]; rfl
  · rw [if_neg e]; rfl
def rt_sw (M : Nat → Nat → Int64) (a b : Nat) (i j : Nat) : Int64 := if i = a then M b j else if i = b then M a j else M i j
theorem nt_bringUp {n r rk : Nat} (hn : n < 8) (hr : r < n) (hrk : rk < n) (sg : Int32) (M : Nat → Nat → Int64) : ∃ M', M_X4_bringUp (nI r) (nI n) (nI rk) sg M = some (if r = rk then sg else -sg, M') ∧ ∀ i j, i < n → j < n → M' i j = rt_sw M rk r i j := by
  unfold M_X4_bringUp
  by_cases e : r = rk
  · rw [if_pos (by rw [e]), if_pos e]
    refine ⟨M, rfl, fun i j _ _ => ?_⟩
    unfold rt_sw
    rw [e]
    by_cases c : i = rk
    · rw [if_pos c, c]
    · rw [if_neg c, if_neg c]
  · rw [if_neg (fun z => e ((nI_eq (by omega) (by omega)).mp z)), if_neg e]
    have loop : ∃ t, on_loop (fun (s : Int32 × (Nat → Nat → Int64)) => B_X4_bringUp_11 (nI r) (nI n) (nI rk) s.1 s.2) on_F ((0 : Int32), M) = some t ∧ ∀ i j, i < n → j < n → t i j = rt_sw M rk r i j := by
      refine ml_invF (fun k s => ∃ X, s = (nI k, X) ∧ (∀ i j, i < n → j < k → X i j = rt_sw M rk r i j) ∧ ∀ i j, k ≤ j → X i j = M i j) _ n (by omega) (fun k s hk hs => ?_) (fun s hs => ?_) ⟨M, rfl, fun i j _ h => absurd h (Nat.not_lt_zero j), fun _ _ _ => rfl⟩
      · obtain ⟨X, rfl, h1, h2⟩ := hs
        left
        refine ⟨(nI (k + 1), on_up2 (on_up2 X rk (vp_updL (X rk) k (X r k))) r (vp_updL ((on_up2 X rk (vp_updL (X rk) k (X r k))) r) k (X rk k))), ?_, _, rfl, fun i j hi hj => ?_, fun i j hj => ?_⟩
        · show B_X4_bringUp_11 (nI r) (nI n) (nI rk) (nI k) X = _
          unfold B_X4_bringUp_11
          rw [if_neg (nI_ge hk (by omega)), ml_gi (by omega) (by omega), ml_gi (by omega) (by omega), ml_let, ml_gi (by omega) (by omega), ml_gi (by omega) (by omega), ml_gi (by omega) (by omega), ml_gi (by omega) (by omega), ml_let, ml_gi (by omega) (by omega), ml_gi (by omega) (by omega), ml_let, ml_let, nI_1, nI_clamp (by omega), nI_clamp (by omega), nI_clamp (by omega)]
        · rw [on_up2_at, on_up2_at]
          unfold rt_sw
          by_cases ej : j = k
          · rw [ej]
            by_cases c1 : i = r
            · rw [if_pos ⟨c1, rfl⟩, if_neg (fun z => e (c1.symm.trans z)), if_pos c1, h2 rk k (Nat.le_refl k)]
            · rw [if_neg (fun z => c1 z.1)]
              by_cases c2 : i = rk
              · rw [if_pos ⟨c2, rfl⟩, if_pos c2, h2 r k (Nat.le_refl k)]
              · rw [if_neg (fun z => c2 z.1), if_neg c2, if_neg c1, h2 i k (Nat.le_refl k)]
          · rw [if_neg (fun z => ej z.2), if_neg (fun z => ej z.2), h1 i j hi (by omega)]
            rfl
        · rw [on_up2_at, on_up2_at, if_neg (by omega), if_neg (by omega), h2 i j (by omega)]
      · obtain ⟨X, rfl, h1, h2⟩ := hs
        refine ⟨X, ?_, h1⟩
        show B_X4_bringUp_11 (nI r) (nI n) (nI rk) (nI n) X = _
        unfold B_X4_bringUp_11
        rw [if_pos (nI_le (Nat.le_refl _) (by omega))]
    obtain ⟨t, h1, h2⟩ := loop
    rw [h1, ml_b, ml_let]
    exact ⟨t, rfl, h2⟩
def rt_R (n : Nat) (M : Nat → Nat → Int64) (tb : Nat → Int64) : Prop := ∀ i j, i < n → j < n → tb (7 * i + j) = M i j
theorem nt_swapRows {n r rk : Nat} {st : Nat → Int32} {tb : Nat → Int64} {M : Nat → Nat → Int64} (hn : n < 8) (hs : st 0 = nI n) (hr : r < n) (hrk : rk < n) (hR : rt_R n M tb) : ∃ tb', M_X6_swapRows (nI rk) (nI r) st tb = some tb' ∧ ∀ i j, i < n → j < n → tb' (7 * i + j) = rt_sw M rk r i j := by
  have loop : ∃ t, on_loop (fun (s : Int32 × (Nat → Int64)) => B_X6_swapRows_2 (nI rk) (nI r) st s.1 s.2) on_F ((0 : Int32), tb) = some t ∧ ∀ i j, i < n → j < n → t (7 * i + j) = rt_sw M rk r i j := by
    refine ml_invF (fun k s => ∃ X, s = (nI k, X) ∧ (∀ i j, i < n → j < n → X (7 * i + j) = if j < k then rt_sw M rk r i j else M i j)) _ n (by omega) (fun k s hk hs2 => ?_) (fun s hs2 => ?_) ⟨tb, rfl, fun i j hi hj => by rw [if_neg (Nat.not_lt_zero j)]; exact hR i j hi hj⟩
    · obtain ⟨X, rfl, h1⟩ := hs2
      left
      obtain ⟨x1, x2⟩ := i7 hn hrk hk
      obtain ⟨y1, y2⟩ := i7 hn hr hk
      refine ⟨(nI (k + 1), vp_updL (vp_updL X (7 * rk + k) (X (7 * r + k))) (7 * r + k) (X (7 * rk + k))), ?_, _, rfl, fun i j hi hj => ?_⟩
      · show B_X6_swapRows_2 (nI rk) (nI r) st (nI k) X = _
        unfold B_X6_swapRows_2
        rw [nt_many hs, ml_b, if_neg (nI_ge hk (by omega)), x1, y1, ml_gi x2 (by omega), ml_let, ml_gi y2 (by omega), ml_gi x2 (by omega), ml_gi y2 (by omega), ml_let, nI_1, nI_clamp (by omega), nI_clamp (by omega)]
      · show (if 7 * i + j = 7 * r + k then X (7 * rk + k) else if 7 * i + j = 7 * rk + k then X (7 * r + k) else X (7 * i + j)) = _
        rw [h1 rk k hrk hk, h1 r k hr hk, h1 i j hi hj, if_neg (Nat.lt_irrefl k), if_neg (Nat.lt_irrefl k)]
        unfold rt_sw
        by_cases ej : j = k
        · rw [if_neg (show ¬ j < k by omega), if_pos (show j < k + 1 by omega), ej]
          by_cases c1 : i = r
          · rw [if_pos ((j7 hn hk hk).mpr ⟨c1, rfl⟩)]
            by_cases c2 : i = rk
            · rw [if_pos c2, ← c1, c2]
            · rw [if_neg c2, if_pos c1]
          · rw [if_neg (fun z => c1 ((j7 hn hk hk).mp z).1)]
            by_cases c2 : i = rk
            · rw [if_pos ((j7 hn hk hk).mpr ⟨c2, rfl⟩), if_pos c2]
            · rw [if_neg (fun z => c2 ((j7 hn hk hk).mp z).1), if_neg c2, if_neg c1]
        · rw [if_neg (fun z => ej ((j7 hn hj hk).mp z).2), if_neg (fun z => ej ((j7 hn hj hk).mp z).2)]
          by_cases c : j < k
          · rw [if_pos c, if_pos (show j < k + 1 by omega)]
          · rw [if_neg c, if_neg (show ¬ j < k + 1 by omega)]
    · obtain ⟨X, rfl, h1⟩ := hs2
      refine ⟨X, ?_, fun i j hi hj => by rw [h1 i j hi hj, if_pos hj]⟩
      show B_X6_swapRows_2 (nI rk) (nI r) st (nI n) X = _
      unfold B_X6_swapRows_2
      rw [nt_many hs, ml_b, if_pos (nI_le (Nat.le_refl _) (by omega))]
  obtain ⟨t, h1, h2⟩ := loop
  refine ⟨t, ?_, h2⟩
  unfold M_X6_swapRows
  rw [h1]
  rfl
def rt_cl (M : Nat → Nat → Int64) (rk c : Nat) (last : Int64) (i j : Nat) : Int64 := (M rk c * M i j - M i c * M rk j) / last
theorem nt_clearT {n c rk : Nat} (hn : n < 8) (hc : c < n) (hrk : rk < n) {last : Int64} (hl : last ≠ 0) (M : Nat → Nat → Int64) : ∃ M', M_X4_clearBelow (nI c) (nI n) (nI rk) last M = some M' ∧ ∀ i j, i < n → j < n → M' i j = if rk < i ∧ c ≤ j then rt_cl M rk c last i j else M i j := by
  have hnz : on_nzL last = true := decide_eq_true hl
  have inner : ∀ i, rk < i → i < n → ∀ X : Nat → Nat → Int64, (∀ p q, p ≤ rk → X p q = M p q) → (∀ q, X i q = M i q) → ∃ t, on_loop (fun (s : Int32 × (Nat → Nat → Int64)) => B_X4_clearBelow_53 (M rk c) (nI i) (M i c) (nI n) (nI rk) last s.1 s.2) on_F (nI c, X) = some t ∧ ∀ p q, t p q = if p = i ∧ c ≤ q ∧ q < n then rt_cl M rk c last i q else X p q := by
    intro i hi1 hi X h1 h2
    refine ml_invF (fun k s => ∃ Y, s = (nI (c + k), Y) ∧ ∀ p q, Y p q = if p = i ∧ c ≤ q ∧ q < c + k then rt_cl M rk c last i q else X p q) _ (n - c) (by omega) (fun k s hk hs => ?_) (fun s hs => ?_) ⟨X, rfl, fun p q => by rw [if_neg (by omega)]⟩
    · obtain ⟨Y, rfl, hY⟩ := hs
      left
      refine ⟨(nI (c + (k + 1)), on_up2 Y i (vp_updL (Y i) (c + k) (rt_cl M rk c last i (c + k)))), ?_, _, rfl, fun p q => ?_⟩
      · show B_X4_clearBelow_53 (M rk c) (nI i) (M i c) (nI n) (nI rk) last (nI (c + k)) Y = _
        unfold B_X4_clearBelow_53
        have y1 : Y i (c + k) = M i (c + k) := by rw [hY, if_neg (by omega), h2]
        have y2 : Y rk (c + k) = M rk (c + k) := by rw [hY, if_neg (by omega), h1 rk _ (Nat.le_refl _)]
        rw [if_neg (nI_ge (show c + k < n by omega) (by omega)), ml_gi (show i < 7 by omega) (by omega), ml_gi (show i < 7 by omega) (by omega), ml_gi (show c + k < 7 by omega) (by omega), ml_gi (show rk < 7 by omega) (by omega), ml_gi (show c + k < 7 by omega) (by omega), ml_gd hnz, ml_gi (show c + k < 7 by omega) (by omega), ml_let, ml_let, nI_1, nI_clamp (show i < 2 ^ 31 by omega), nI_clamp (show c + k < 2 ^ 31 by omega), nI_clamp (show rk < 2 ^ 31 by omega), y1, y2]
        rfl
      · rw [on_up2_at]
        by_cases e : p = i ∧ q = c + k
        · rw [if_pos e, if_pos (by omega), e.2]
        · rw [if_neg e, hY]
          by_cases e2 : p = i ∧ c ≤ q ∧ q < c + k
          · rw [if_pos e2, if_pos (by omega)]
          · rw [if_neg e2, if_neg (by omega)]
    · obtain ⟨Y, rfl, hY⟩ := hs
      rw [show c + (n - c) = n by omega] at hY ⊢
      refine ⟨Y, ?_, hY⟩
      show B_X4_clearBelow_53 (M rk c) (nI i) (M i c) (nI n) (nI rk) last (nI n) Y = _
      unfold B_X4_clearBelow_53
      rw [if_pos (nI_le (Nat.le_refl _) (by omega))]
  have outer : ∃ t, on_loop (fun (s : Int32 × (Nat → Nat → Int64)) => B_X4_clearBelow_30 (nI c) (M rk c) (nI n) (nI rk) last s.1 s.2) on_F (nI (rk + 1), M) = some t ∧ ∀ p q, p < n → q < n → t p q = if rk < p ∧ c ≤ q then rt_cl M rk c last p q else M p q := by
    refine ml_invF (fun k s => ∃ Y, s = (nI (rk + 1 + k), Y) ∧ ∀ p q, Y p q = if rk < p ∧ p < rk + 1 + k ∧ c ≤ q ∧ q < n then rt_cl M rk c last p q else M p q) _ (n - (rk + 1)) (by omega) (fun k s hk hs => ?_) (fun s hs => ?_) ⟨M, rfl, fun p q => by rw [if_neg (by omega)]⟩
    · obtain ⟨Y, rfl, hY⟩ := hs
      left
      obtain ⟨t, t1, t2⟩ := inner (rk + 1 + k) (by omega) (by omega) Y (fun p q hp => by rw [hY, if_neg (by omega)]) (fun q => by rw [hY, if_neg (by omega)])
      refine ⟨(nI (rk + 1 + (k + 1)), t), ?_, t, rfl, fun p q => ?_⟩
      · show B_X4_clearBelow_30 (nI c) (M rk c) (nI n) (nI rk) last (nI (rk + 1 + k)) Y = _
        have y1 : Y (rk + 1 + k) c = M (rk + 1 + k) c := by rw [hY, if_neg (by omega)]
        unfold B_X4_clearBelow_30
        rw [if_neg (nI_ge (show rk + 1 + k < n by omega) (by omega)), ml_gi (show rk + 1 + k < 7 by omega) (by omega), ml_gi (show c < 7 by omega) (by omega), nI_clamp (show rk + 1 + k < 2 ^ 31 by omega), nI_clamp (show c < 2 ^ 31 by omega), y1, ml_let, t1, ml_b, ml_let, nI_1]
        rfl
      · rw [t2]
        by_cases e : p = rk + 1 + k ∧ c ≤ q ∧ q < n
        · rw [if_pos e, if_pos (by omega), e.1]
        · rw [if_neg e, hY]
          by_cases e2 : rk < p ∧ p < rk + 1 + k ∧ c ≤ q ∧ q < n
          · rw [if_pos e2, if_pos (by omega)]
          · rw [if_neg e2, if_neg (by omega)]
    · obtain ⟨Y, rfl, hY⟩ := hs
      rw [show rk + 1 + (n - (rk + 1)) = n by omega] at hY ⊢
      refine ⟨Y, ?_, fun p q hp hq => ?_⟩
      · show B_X4_clearBelow_30 (nI c) (M rk c) (nI n) (nI rk) last (nI n) Y = _
        unfold B_X4_clearBelow_30
        rw [if_pos (nI_le (Nat.le_refl _) (by omega))]
      · rw [hY]
        by_cases e : rk < p ∧ c ≤ q
        · rw [if_pos e, if_pos (by omega)]
        · rw [if_neg e, if_neg (by omega)]
  obtain ⟨t, t1, t2⟩ := outer
  refine ⟨t, ?_, t2⟩
  unfold M_X4_clearBelow
  rw [if_neg (fun z => hl ((lg_cmp0 _).mp z)), ml_gi (show rk < 7 by omega) (by omega), ml_gi (show c < 7 by omega) (by omega), nI_clamp (show rk < 2 ^ 31 by omega), nI_clamp (show c < 2 ^ 31 by omega), ml_let, ml_let, nI_1, t1]
  rfl
theorem nt_clearM {n c rk : Nat} {st : Nat → Int32} {tb : Nat → Int64} {M : Nat → Nat → Int64} (hn : n < 8) (hs : st 0 = nI n) (hc : c < n) (hrk : rk < n) {last : Int64} (hl : last ≠ 0) (hR : rt_R n M tb) : ∃ tb', M_X6_clearBelow (nI rk) (nI c) last st tb = some tb' ∧ ∀ i j, i < n → j < n → tb' (7 * i + j) = if rk < i then rt_cl M rk c last i j else M i j := by
  have hnz : on_nzL last = true := decide_eq_true hl
  have inner : ∀ i, rk < i → i < n → ∀ X : Nat → Int64, (∀ p q, p < n → q < n → (p ≤ rk ∨ p = i) → X (7 * p + q) = M p q) → ∃ t, on_loop (fun (s : Int32 × (Nat → Int64)) => B_X6_clearBelow_44 (nI rk) last (M rk c) (nI i) (M i c) st s.1 s.2) on_F ((0 : Int32), X) = some t ∧ ∀ p q, p < n → q < n → t (7 * p + q) = if p = i then rt_cl M rk c last i q else X (7 * p + q) := by
    intro i hi1 hi X h1
    refine ml_invF (fun k s => ∃ Y, s = (nI k, Y) ∧ ∀ p q, p < n → q < n → Y (7 * p + q) = if p = i ∧ q < k then rt_cl M rk c last i q else X (7 * p + q)) _ n (by omega) (fun k s hk hs2 => ?_) (fun s hs2 => ?_) ⟨X, rfl, fun p q _ _ => by rw [if_neg (by omega)]⟩
    · obtain ⟨Y, rfl, hY⟩ := hs2
      left
      obtain ⟨x1, x2⟩ := i7 hn hi hk
      obtain ⟨z1, z2⟩ := i7 hn hrk hk
      refine ⟨(nI (k + 1), vp_updL Y (7 * i + k) (rt_cl M rk c last i k)), ?_, _, rfl, fun p q hp hq => ?_⟩
      · show B_X6_clearBelow_44 (nI rk) last (M rk c) (nI i) (M i c) st (nI k) Y = _
        unfold B_X6_clearBelow_44
        have y1 : Y (7 * i + k) = M i k := by rw [hY i k hi hk, if_neg (by omega), h1 i k hi hk (Or.inr rfl)]
        have y2 : Y (7 * rk + k) = M rk k := by rw [hY rk k hrk hk, if_neg (by omega), h1 rk k hrk hk (Or.inl (Nat.le_refl _))]
        rw [nt_many hs, ml_b, if_neg (nI_ge hk (by omega)), x1, z1, ml_gi x2 (by omega), ml_gi z2 (by omega), ml_gd hnz, ml_gi x2 (by omega), ml_let, nI_1, nI_clamp (show 7 * i + k < 2 ^ 31 by omega), nI_clamp (show 7 * rk + k < 2 ^ 31 by omega), y1, y2, Int64.mul_comm (M i k)]
        rfl
      · unfold vp_updL
        by_cases e : p = i ∧ q = k
        · rw [if_pos (by rw [e.1, e.2]), if_pos (by omega), e.2]
        · rw [if_neg (fun z => e ((j7 hn hq hk).mp z)), hY p q hp hq]
          by_cases e2 : p = i ∧ q < k
          · rw [if_pos e2, if_pos (by omega)]
          · rw [if_neg e2, if_neg (by omega)]
    · obtain ⟨Y, rfl, hY⟩ := hs2
      refine ⟨Y, ?_, fun p q hp hq => ?_⟩
      · show B_X6_clearBelow_44 (nI rk) last (M rk c) (nI i) (M i c) st (nI n) Y = _
        unfold B_X6_clearBelow_44
        rw [nt_many hs, ml_b, if_pos (nI_le (Nat.le_refl _) (by omega))]
      · rw [hY p q hp hq]
        by_cases e : p = i
        · rw [if_pos e, if_pos ⟨e, hq⟩]
        · rw [if_neg e, if_neg (fun z => e z.1)]
  have outer : ∃ t, on_loop (fun (s : Int32 × (Nat → Int64)) => B_X6_clearBelow_18 (nI rk) (nI c) last (M rk c) st s.1 s.2) on_F (nI (rk + 1), tb) = some t ∧ ∀ p q, p < n → q < n → t (7 * p + q) = if rk < p then rt_cl M rk c last p q else M p q := by
    refine ml_invF (fun k s => ∃ Y, s = (nI (rk + 1 + k), Y) ∧ ∀ p q, p < n → q < n → Y (7 * p + q) = if rk < p ∧ p < rk + 1 + k then rt_cl M rk c last p q else M p q) _ (n - (rk + 1)) (by omega) (fun k s hk hs2 => ?_) (fun s hs2 => ?_) ⟨tb, rfl, fun p q hp hq => by rw [if_neg (by omega)]; exact hR p q hp hq⟩
    · obtain ⟨Y, rfl, hY⟩ := hs2
      left
      obtain ⟨t, t1, t2⟩ := inner (rk + 1 + k) (by omega) (by omega) Y (fun p q hp hq hpp => by rw [hY p q hp hq, if_neg (by omega)])
      obtain ⟨x1, x2⟩ := i7 hn (show rk + 1 + k < n by omega) hc
      refine ⟨(nI (rk + 1 + (k + 1)), t), ?_, t, rfl, fun p q hp hq => ?_⟩
      · show B_X6_clearBelow_18 (nI rk) (nI c) last (M rk c) st (nI (rk + 1 + k)) Y = _
        have y1 : Y (7 * (rk + 1 + k) + c) = M (rk + 1 + k) c := by rw [hY _ c (by omega) hc, if_neg (by omega)]
        unfold B_X6_clearBelow_18
        rw [nt_many hs, ml_b, if_neg (nI_ge (show rk + 1 + k < n by omega) (by omega)), x1, ml_gi x2 (by omega), nI_clamp (by omega), y1, ml_let, t1, ml_b, ml_let, nI_1]
        rfl
      · rw [t2 p q hp hq]
        by_cases e : p = rk + 1 + k
        · rw [if_pos e, if_pos (by omega), e]
        · rw [if_neg e, hY p q hp hq]
          by_cases e2 : rk < p ∧ p < rk + 1 + k
          · rw [if_pos e2, if_pos (by omega)]
          · rw [if_neg e2, if_neg (by omega)]
    · obtain ⟨Y, rfl, hY⟩ := hs2
      rw [show rk + 1 + (n - (rk + 1)) = n by omega] at hY ⊢
      refine ⟨Y, ?_, fun p q hp hq => ?_⟩
      · show B_X6_clearBelow_18 (nI rk) (nI c) last (M rk c) st (nI n) Y = _
        unfold B_X6_clearBelow_18
        rw [nt_many hs, ml_b, if_pos (nI_le (Nat.le_refl _) (by omega))]
      · rw [hY p q hp hq]
        by_cases e : rk < p
        · rw [if_pos e, if_pos ⟨e, hp⟩]
        · rw [if_neg e, if_neg (fun z => e z.1)]
  obtain ⟨t, t1, t2⟩ := outer
  obtain ⟨x1, x2⟩ := i7 hn hrk hc
  refine ⟨t, ?_, t2⟩
  unfold M_X6_clearBelow
  rw [x1, ml_gi x2 (by omega), nI_clamp (by omega), hR rk c hrk hc, ml_let, ml_let, nI_1, t1]
  rfl
theorem nt_eliminate {n : Nat} {st : Nat → Int32} {tb : Nat → Int64} {M : Nat → Nat → Int64} (hn : n < 8) (hs : st 0 = nI n) (hR : rt_R n M tb) : ∃ rk sg last M' tb', M_X4_eliminate (nI n) M = some (nI rk, sg, last, M') ∧ rk ≤ n ∧ M_X6_workOut st tb = some (nI rk, (if rk = n then Int32.toInt64 sg * last else 0), tb') := by
  have loop : ∃ r r', on_loop (fun (s : Int32 × Int32 × Int32 × Int64 × (Nat → Nat → Int64)) => B_X4_eliminate_17 (nI n) s.1 s.2.1 s.2.2.1 s.2.2.2.1 s.2.2.2.2) on_F ((0 : Int32), (0 : Int32), (1 : Int32), (1 : Int64), M) = some r ∧ on_loop (fun (s : Int64 × Int32 × Int32 × Int32 × (Nat → Int64)) => B_X6_workOut_12 st s.1 s.2.1 s.2.2.1 s.2.2.2.1 s.2.2.2.2) on_F ((1 : Int64), (1 : Int32), (0 : Int32), (0 : Int32), tb) = some r' ∧ ∃ rk sg last M' tb', rk ≤ n ∧ r = (nI rk, sg, last, M') ∧ r' = (last, sg, nI rk, tb') := by
    refine ml_inv2 (fun c s t => ∃ rk sg last M tb, s = (nI c, nI rk, sg, last, M) ∧ t = (last, sg, nI c, nI rk, tb) ∧ rk ≤ c ∧ last ≠ 0 ∧ rt_R n M tb ∧ ∀ i j, rk ≤ i → i < n → j < c → M i j = 0) _ n (fun c s t hc hI => ?_) (fun s t hI => ?_) n 0 on_F _ _ (Nat.zero_add n) (show n < 6000 by omega) ⟨0, 1, 1, M, tb, rfl, rfl, Nat.le_refl _, by decide, hR, fun i j _ _ h => absurd h (Nat.not_lt_zero j)⟩
    · obtain ⟨rk, sg, last, M, tb, rfl, rfl, hrk, hl, hR, hz⟩ := hI
      obtain ⟨r, p1, p2, p3, p4, p5⟩ := nt_pivotRow hn hc (show rk ≤ n by omega) M
      have q1 := nt_rowWith (tb := tb) hn hs hc p2 p3 (fun i h1 h2 => by rw [hR i c (by omega) hc]; exact p4 i h1 h2) (fun h => by rw [hR r c h hc]; exact p5 h)
      by_cases e : r < n
      · obtain ⟨M2, b1, b2⟩ := nt_bringUp hn e (show rk < n by omega) sg M
        obtain ⟨tb2, s1, s2⟩ := nt_swapRows hn hs e (show rk < n by omega) hR
        have hR2 : rt_R n M2 tb2 := fun i j hi hj => by rw [s2 i j hi hj, b2 i j hi hj]
        obtain ⟨M3, c1, c2⟩ := nt_clearT hn hc (show rk < n by omega) hl M2
        obtain ⟨tb3, d1, d2⟩ := nt_clearM hn hs hc (show rk < n by omega) hl hR2
        have hz2 : ∀ i j, rk ≤ i → i < n → j < c → M2 i j = 0 := fun i j h1 h2 h3 => by
          rw [b2 i j h2 (by omega)]
          unfold rt_sw
          by_cases g1 : i = rk
          · rw [if_pos g1]; exact hz r j p2 e h3
          · rw [if_neg g1]
            by_cases g2 : i = r
            · rw [if_pos g2]; exact hz rk j (Nat.le_refl _) (by omega) h3
            · rw [if_neg g2]; exact hz i j h1 h2 h3
        have hR3 : rt_R n M3 tb3 := fun i j hi hj => by
          rw [d2 i j hi hj, c2 i j hi hj]
          by_cases g1 : rk < i
          · rw [if_pos g1]
            by_cases g2 : c ≤ j
            · rw [if_pos ⟨g1, g2⟩]
            · rw [if_neg (fun z => g2 z.2)]
              unfold rt_cl
              rw [hz2 i j (by omega) hi (by omega), hz2 rk j (Nat.le_refl _) (by omega) (by omega), Int64.mul_zero, Int64.mul_zero, Int64.sub_self, l0_div]
          · rw [if_neg g1, if_neg (fun z => g1 z.1)]
        have hpiv : M3 rk c ≠ 0 := by
          rw [c2 rk c (by omega) hc, if_neg (by omega), b2 rk c (by omega) hc]
          unfold rt_sw
          rw [if_pos rfl]
          exact p5 e
        have hz3 : ∀ i j, rk + 1 ≤ i → i < n → j < c + 1 → M3 i j = 0 := fun i j h1 h2 h3 => by
          rw [c2 i j h2 (by omega)]
          by_cases g : c ≤ j
          · rw [if_pos ⟨by omega, g⟩, show j = c by omega]
            unfold rt_cl
            rw [Int64.mul_comm (M2 rk c), Int64.sub_self, l0_div]
          · rw [if_neg (fun z => g z.2)]
            exact hz2 i j (by omega) h2 (by omega)
        refine ⟨(nI (c + 1), nI (rk + 1), (if r = rk then sg else -sg), M3 rk c, M3), (M3 rk c, (if r = rk then sg else -sg), nI (c + 1), nI (rk + 1), tb3), ?_, ?_, rk + 1, _, M3 rk c, M3, tb3, rfl, rfl, by omega, hpiv, hR3, hz3⟩
        · show B_X4_eliminate_17 (nI n) (nI c) (nI rk) sg last M = _
          unfold B_X4_eliminate_17
          rw [if_neg (nI_ge hc (by omega)), p1, ml_b, if_neg (nI_ge e (by omega)), b1, ml_b, c1, ml_b, ml_gi (show rk < 7 by omega) (by omega), ml_gi (show c < 7 by omega) (by omega), ml_let, ml_let, ml_let, nI_1, nI_1, nI_clamp (show rk < 2 ^ 31 by omega), nI_clamp (show c < 2 ^ 31 by omega)]
        · show B_X6_workOut_12 st last sg (nI c) (nI rk) tb = _
          obtain ⟨x1, x2⟩ := i7 hn (show rk < n by omega) hc
          unfold B_X6_workOut_12
          rw [nt_many hs, ml_b, if_neg (nI_ge hc (by omega)), q1, if_pos e, ml_b, if_neg (nI_pos (by omega)), s1, ml_b, d1, ml_b, x1, ml_gi x2 (by omega), nI_clamp (by omega), hR3 rk c (by omega) hc]
          by_cases g : r = rk
          · rw [if_pos (by rw [g]), if_pos g, ml_let, ml_let, ml_let, nI_1, nI_1]
          · rw [if_neg (fun z => g ((nI_eq (by omega) (by omega)).mp z)), if_neg g, ml_let, ml_b, d1, ml_b, ml_gi x2 (by omega), hR3 rk c (by omega) hc, ml_let, ml_let, ml_let, nI_1, nI_1]
      · refine ⟨(nI (c + 1), nI rk, sg, last, M), (last, sg, nI (c + 1), nI rk, tb), ?_, ?_, rk, sg, last, M, tb, rfl, rfl, by omega, hl, hR, fun i j h1 h2 h3 => ?_⟩
        · show B_X4_eliminate_17 (nI n) (nI c) (nI rk) sg last M = _
          unfold B_X4_eliminate_17
          rw [if_neg (nI_ge hc (by omega)), p1, ml_b, if_pos (nI_le (by omega) (by omega)), ml_let, nI_1]
        · show B_X6_workOut_12 st last sg (nI c) (nI rk) tb = _
          unfold B_X6_workOut_12
          rw [nt_many hs, ml_b, if_neg (nI_ge hc (by omega)), q1, if_neg e, ml_b, if_pos (by decide), ml_let, nI_1]
        · by_cases g : j = c
          · rw [g]; exact p4 i h1 (by omega)
          · exact hz i j h1 h2 (by omega)
    · obtain ⟨rk, sg, last, M, tb, rfl, rfl, hrk, hl, hR, hz⟩ := hI
      refine ⟨(nI rk, sg, last, M), (last, sg, nI rk, tb), ?_, ?_, rk, sg, last, M, tb, hrk, rfl, rfl⟩
      · show B_X4_eliminate_17 (nI n) (nI n) (nI rk) sg last M = _
        unfold B_X4_eliminate_17
        rw [if_pos (nI_le (Nat.le_refl _) (by omega))]
      · show B_X6_workOut_12 st last sg (nI n) (nI rk) tb = _
        unfold B_X6_workOut_12
        rw [nt_many hs, ml_b, if_pos (nI_le (Nat.le_refl _) (by omega))]
  obtain ⟨_, _, h1, h2, rk, sg, last, M', tb', h3, rfl, rfl⟩ := loop
  refine ⟨rk, sg, last, M', tb', ?_, h3, ?_⟩
  · unfold M_X4_eliminate
    rw [h1]
    rfl
  · unfold M_X6_workOut
    rw [h2, ml_b, nt_many hs, ml_b]
    by_cases e : rk = n
    · rw [if_pos (show nI rk = nI n by rw [e]), if_pos e]
      rfl
    · rw [if_neg (show ¬ nI rk = nI n from fun z => e ((nI_eq (by omega) (by omega)).mp z)), if_neg e]
theorem iv_w (a b c : Int32) : M_X5_within a b c = some 1 ∨ M_X5_within a b c = some 0 := by
  unfold M_X5_within
  by_cases h1 : a < b
  · rw [if_pos h1]; exact Or.inr rfl
  · rw [if_neg h1]
    by_cases h2 : c < a
    · rw [if_pos h2]; exact Or.inr rfl
    · rw [if_neg h2]; exact Or.inl rfl
theorem st_root {n : Nat} {a : Nat → Nat} {mc : Int32} {nums st : Nat → Int32} (hS : iv_S n a mc nums st) (v1 v2 v3 nm : Int32) (nr : Nat → Int32) (tm trk tsg : Int32) (tl : Int64) (tc : Nat → Nat → Int64) (mrk : Int32) (md : Int64) (tb : Nat → Int64) : ∃ r x1 x2 x3 x4 x5 x6 x7 y1 y2 y3, M_X5_root v1 v2 v3 mc nums nm nr tm trk tsg tl tc = some (r, x1, x2, x3, x4, x5, x6, x7) ∧ M_X6_root v1 v2 v3 mrk md st tb = some (r, y1, y2, y3) := by
  obtain ⟨hn, hn3, rfl, hs, hk⟩ := hS
  unfold M_X5_root M_X6_root
  rw [iv_same]
  rcases iv_slot v1 with ⟨k, k3, rfl, e1, e2⟩ | ⟨e1, e2⟩
  · rw [e1, e2, ml_b, ml_b, if_neg iv_10, if_neg iv_10]
    rcases iv_w v2 (-9) 9 with f | f
    · rw [f, ml_b, ml_b, if_neg iv_10, if_neg iv_10]
      rcases iv_w v3 0 1 with g | g
      · obtain ⟨ha, h1, h2⟩ := hk k k3
        obtain ⟨ra, l1, l2⟩ := nt_load (rows := nr) hn ha k3 h1
        obtain ⟨M, m1, m2⟩ := nt_fillT hn l2 v2 tc
        obtain ⟨tb1, t1, t2⟩ := nt_layTable (a := a k) hn hs v2 tb
        obtain ⟨rk, sg, last, M', tb', w1, w2, w3⟩ := nt_eliminate (M := M) (tb := tb1) hn hs (fun i j hi hj => by rw [m2 i j hi hj, t2 i j hi hj])
        rw [g, ml_b, ml_b, if_neg iv_10, if_neg iv_10, l1, ml_b, nt_netOf k3, ml_b, h2, t1, ml_b, w3, ml_b, nt_many hs]
        show ∃ r x1 x2 x3 x4 x5 x6 x7 y1 y2 y3, (M_X4_fill v2 tc (nI n) ra).bind _ = _ ∧ _
        rw [m1, ml_b]
        show ∃ r x1 x2 x3 x4 x5 x6 x7 y1 y2 y3, (M_X4_eliminate (nI n) M).bind _ = _ ∧ _
        rw [w1, ml_b]
        by_cases c : v3 = 0
        · rw [if_pos c, if_pos c]
          unfold M_X4_determinant
          show ∃ r x1 x2 x3 x4 x5 x6 x7 y1 y2 y3, Option.bind (if nI rk = nI n then (some ((Int32.toInt64 sg) * last)) else (some (0 : Int64))) _ = _ ∧ _
          by_cases e : rk = n
          · rw [if_pos (show nI rk = nI n by rw [e]), if_pos e]
            exact ⟨_, _, _, _, _, _, _, _, _, _, _, rfl, rfl⟩
          · rw [if_neg (show ¬ nI rk = nI n from fun z => e ((nI_eq (by omega) (by omega)).mp z)), if_neg e]
            exact ⟨_, _, _, _, _, _, _, _, _, _, _, rfl, rfl⟩
        · rw [if_neg c, if_neg c]
          exact ⟨_, _, _, _, _, _, _, _, _, _, _, rfl, rfl⟩
      · rw [g]
        exact ⟨_, _, _, _, _, _, _, _, _, _, _, rfl, rfl⟩
    · rw [f]
      exact ⟨_, _, _, _, _, _, _, _, _, _, _, rfl, rfl⟩
  · rw [e1, e2]
    exact ⟨_, _, _, _, _, _, _, _, _, _, _, rfl, rfl⟩
