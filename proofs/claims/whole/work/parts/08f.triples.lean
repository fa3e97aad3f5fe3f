/-! ===== triples ===== -/
def px (n p q r : Nat) : Nat := fb_sm (fun i => (n - 1 - i) * (n - 2 - i) / 2) p + fb_sm (fun j => n - 1 - (p + 1 + j)) (q - (p + 1)) + (r - q - 1)
theorem px0 : ∀ n, n < 8 → px n 0 1 2 = 0 := by decide +kernel
theorem pxS {n p q r : Nat} (h : q < r) : px n p q (r + 1) = px n p q r + 1 := by unfold px; omega
theorem pxQ : ∀ n, n < 8 → ∀ q, q < n → ∀ p, p < q → px n p q n = px n p (q + 1) (q + 2) := by decide +kernel
theorem pxP : ∀ n, n < 8 → ∀ p, p < n → px n p n (n + 1) = px n (p + 1) (p + 2) (p + 3) := by decide +kernel
theorem pxL : ∀ n, n < 8 → ∀ r, r < n → ∀ q, q < r → ∀ p, p < q → px n p q r < nt_n3f n := by decide +kernel
theorem nt_placeK : ∀ n, n < 8 → ∀ r, r < n → ∀ q, q < r → ∀ p, p < q → M_X6_placeOf (nI p) (nI q) (nI r) (fun _ => nI n) = some (nI (px n p q r)) := by decide +kernel
theorem nt_manyC (st : Nat → Int32) : M_X6_many st = M_X6_many (fun _ => st 0) := rfl
theorem nt_place36 (v1 v2 v3 v5 v6 : Int32) (st : Nat → Int32) (v4 v7 : Int32) : B_X6_placeOf_36 v1 v2 v3 v5 v6 st v4 v7 = B_X6_placeOf_36 v1 v2 v3 v5 v6 (fun _ => st 0) v4 v7 := rfl
theorem nt_place21 (v1 v2 v3 v5 : Int32) (st : Nat → Int32) (v4 v6 : Int32) : B_X6_placeOf_21 v1 v2 v3 v5 st v4 v6 = B_X6_placeOf_21 v1 v2 v3 v5 (fun _ => st 0) v4 v6 := rfl
theorem nt_place6 (v1 v2 v3 : Int32) (st : Nat → Int32) (v4 v5 : Int32) : B_X6_placeOf_6 v1 v2 v3 st v4 v5 = B_X6_placeOf_6 v1 v2 v3 (fun _ => st 0) v4 v5 := rfl
theorem nt_placeC (v1 v2 v3 : Int32) (st : Nat → Int32) : M_X6_placeOf v1 v2 v3 st = M_X6_placeOf v1 v2 v3 (fun _ => st 0) := rfl
theorem nt_told {n p q r : Nat} {st pad : Nat → Int32} (hn : n < 8) (hs : st 0 = nI n) (hd : ∀ i, i < nt_n3f n → pad i = 48 ∨ pad i = 49) (hp : p < q) (hq : q < r) (hr : r < n) : M_X6_told (nI p) (nI q) (nI r) st pad = some (nt_i (dg pad (px n p q r))) := by
  have h1 := pxL n hn r hr q hq p hp
  have h2 := (nt_tri n hn).2
  unfold M_X6_told
  rw [nt_placeC, hs, nt_placeK n hn r hr q hq p hp, ml_b, ml_gi (by omega) (by omega), nI_clamp (by omega), nt_p48 (hd _ h1), show (48 : Int32) = nI 48 by decide, nI_sub (by omega), nt_i_n, show 48 + (dg pad (px n p q r)).toNat - 48 = (dg pad (px n p q r)).toNat by omega]
def Ev (t : Nat → Nat → Nat → Bool) (i j k l : Nat) : Prop := (t i j k ^^ (t i j l ^^ (t i k l ^^ t j k l))) = false
theorem nt_four : ∀ a b c d : Bool, (if ((((nt_i a + nt_i b) + nt_i c) + nt_i d) - (((nt_i a + nt_i b) + nt_i c) + nt_i d) / (2 : Int32) * (2 : Int32)) = 0 then (some (1 : Int32)) else (some (0 : Int32))) = some (nt_i (!(a ^^ (b ^^ (c ^^ d))))) := by decide +kernel
theorem nt_fitFour {n i j k l : Nat} {st pad : Nat → Int32} (hn : n < 8) (hs : st 0 = nI n) (hd : ∀ i, i < nt_n3f n → pad i = 48 ∨ pad i = 49) (hi : i < j) (hj : j < k) (hk : k < l) (hl : l < n) : ∃ b, M_X6_fitFour (nI i) (nI j) (nI k) (nI l) st pad = some (nt_i b) ∧ (b = true ↔ Ev (fun p q r => dg pad (px n p q r)) i j k l) := by
  refine ⟨!(dg pad (px n i j k) ^^ (dg pad (px n i j l) ^^ (dg pad (px n i k l) ^^ dg pad (px n j k l)))), ?_, ?_⟩
  · unfold M_X6_fitFour
    rw [nt_told hn hs hd hi hj (by omega), ml_b, nt_told hn hs hd hi (show j < l by omega) hl, ml_b, nt_told hn hs hd (show i < k by omega) hk hl, ml_b, nt_told hn hs hd hj hk hl, ml_b]
    exact nt_four _ _ _ _
  · unfold Ev
    rw [Bool.not_eq_true']
theorem nt_areFit {n : Nat} {st pad : Nat → Int32} (hn : n < 8) (hs : st 0 = nI n) (hd : ∀ i, i < nt_n3f n → pad i = 48 ∨ pad i = 49) : ∃ b, M_X6_areFit st pad = some (nt_i b) ∧ (b = true ↔ ∀ i j k l, i < j → j < k → k < l → l < n → Ev (fun p q r => dg pad (px n p q r)) i j k l) := by
  generalize ht : (fun p q r => dg pad (px n p q r)) = t
  have hfit : ∀ i j k l, i < j → j < k → k < l → l < n → ∃ b, M_X6_fitFour (nI i) (nI j) (nI k) (nI l) st pad = some (nt_i b) ∧ (b = true ↔ Ev t i j k l) := fun i j k l hi hj hk hl => by rw [← ht]; exact nt_fitFour hn hs hd hi hj hk hl
  have l4 : ∀ i j k b0, i < j → j < k → k < n → ∃ r, on_loop (fun (s : Int32 × Int32) => B_X6_areFit_44 (nI i) (nI j) (nI k) st pad s.1 s.2) on_F (nt_i b0, nI (k + 1)) = some r ∧ ∃ b, r = nt_i b ∧ (b = true ↔ (b0 = true ∧ ∀ l, k < l → l < n → Ev t i j k l)) := by
    intro i j k b0 hi hj hk
    refine ml_invF (fun x s => ∃ b, s = (nt_i b, nI (k + 1 + x)) ∧ (b = true ↔ (b0 = true ∧ ∀ l, k < l → l < k + 1 + x → Ev t i j k l))) _ (n - (k + 1)) (by omega) (fun x s hx hs2 => ?_) (fun s hs2 => ?_) ⟨b0, rfl, ⟨fun h => ⟨h, fun l h1 h2 => by omega⟩, fun h => h.1⟩⟩
    · obtain ⟨b, rfl, hb⟩ := hs2
      left
      cases b with
      | false =>
        refine ⟨(nt_i false, nI (k + 1 + (x + 1))), ?_, false, rfl, ⟨fun h => absurd h (by decide), fun h => absurd (hb.mpr ⟨h.1, fun l h1 h2 => h.2 l h1 (by omega)⟩) (by decide)⟩⟩
        show B_X6_areFit_44 (nI i) (nI j) (nI k) st pad 0 (nI (k + 1 + x)) = _
        unfold B_X6_areFit_44
        rw [nt_many hs, ml_b, if_neg (nI_ge (show k + 1 + x < n by omega) (by omega)), if_pos rfl, ml_let, nI_1]
        rfl
      | true =>
        obtain ⟨c, f1, f2⟩ := hfit i j k (k + 1 + x) hi hj (by omega) (by omega)
        have hb2 := hb.mp rfl
        refine ⟨(nt_i c, nI (k + 1 + (x + 1))), ?_, c, rfl, ⟨fun h => ⟨hb2.1, fun l h1 h2 => ?_⟩, fun h => f2.mpr (h.2 _ (by omega) (by omega))⟩⟩
        · show B_X6_areFit_44 (nI i) (nI j) (nI k) st pad 1 (nI (k + 1 + x)) = _
          unfold B_X6_areFit_44
          rw [nt_many hs, ml_b, if_neg (nI_ge (show k + 1 + x < n by omega) (by omega)), if_neg iv_10, f1, ml_b]
          cases c with
          | false =>
            rw [if_pos nt_i0, ml_let, nI_1]
            rfl
          | true =>
            rw [if_neg (by decide), ml_let, nI_1]
            rfl
        · by_cases e : l = k + 1 + x
          · rw [e]
            exact f2.mp h
          · exact hb2.2 l h1 (by omega)
    · obtain ⟨b, rfl, hb⟩ := hs2
      rw [show k + 1 + (n - (k + 1)) = n by omega] at hb ⊢
      refine ⟨nt_i b, ?_, b, rfl, hb⟩
      show B_X6_areFit_44 (nI i) (nI j) (nI k) st pad (nt_i b) (nI n) = _
      unfold B_X6_areFit_44
      rw [nt_many hs, ml_b, if_pos (nI_le (Nat.le_refl _) (by omega))]
  have l3 : ∀ i j b0, i < j → j < n → ∃ r, on_loop (fun (s : Int32 × Int32) => B_X6_areFit_29 (nI i) (nI j) st pad s.1 s.2) on_F (nt_i b0, nI (j + 1)) = some r ∧ ∃ b, r = nt_i b ∧ (b = true ↔ (b0 = true ∧ ∀ k l, j < k → k < n → k < l → l < n → Ev t i j k l)) := by
    intro i j b0 hi hj
    refine ml_invF (fun x s => ∃ b, s = (nt_i b, nI (j + 1 + x)) ∧ (b = true ↔ (b0 = true ∧ ∀ k l, j < k → k < j + 1 + x → k < l → l < n → Ev t i j k l))) _ (n - (j + 1)) (by omega) (fun x s hx hs2 => ?_) (fun s hs2 => ?_) ⟨b0, rfl, ⟨fun h => ⟨h, fun k l h1 h2 => by omega⟩, fun h => h.1⟩⟩
    · obtain ⟨b, rfl, hb⟩ := hs2
      left
      obtain ⟨_, f1, c, rfl, f2⟩ := l4 i j (j + 1 + x) b hi (by omega) (by omega)
      refine ⟨(nt_i c, nI (j + 1 + (x + 1))), ?_, c, rfl, f2.trans ⟨fun h => ⟨(hb.mp h.1).1, fun k l h1 h2 h3 h4 => ?_⟩, fun h => ⟨hb.mpr ⟨h.1, fun k l h1 h2 => h.2 k l h1 (by omega)⟩, fun l h1 h2 => h.2 _ l (by omega) (by omega) h1 h2⟩⟩⟩
      · show B_X6_areFit_29 (nI i) (nI j) st pad (nt_i b) (nI (j + 1 + x)) = _
        unfold B_X6_areFit_29
        rw [nt_many hs, ml_b, if_neg (nI_ge (show j + 1 + x < n by omega) (by omega)), ml_let, nI_1, f1, ml_b, ml_let]
        rfl
      · by_cases e : k = j + 1 + x
        · rw [e] at h3 ⊢
          exact h.2 l h3 h4
        · exact (hb.mp h.1).2 k l h1 (by omega) h3 h4
    · obtain ⟨b, rfl, hb⟩ := hs2
      rw [show j + 1 + (n - (j + 1)) = n by omega] at hb ⊢
      refine ⟨nt_i b, ?_, b, rfl, hb⟩
      show B_X6_areFit_29 (nI i) (nI j) st pad (nt_i b) (nI n) = _
      unfold B_X6_areFit_29
      rw [nt_many hs, ml_b, if_pos (nI_le (Nat.le_refl _) (by omega))]
  have l2 : ∀ i b0, i < n → ∃ r, on_loop (fun (s : Int32 × Int32) => B_X6_areFit_16 (nI i) st pad s.1 s.2) on_F (nt_i b0, nI (i + 1)) = some r ∧ ∃ b, r = nt_i b ∧ (b = true ↔ (b0 = true ∧ ∀ j k l, i < j → j < n → j < k → k < n → k < l → l < n → Ev t i j k l)) := by
    intro i b0 hi
    refine ml_invF (fun x s => ∃ b, s = (nt_i b, nI (i + 1 + x)) ∧ (b = true ↔ (b0 = true ∧ ∀ j k l, i < j → j < i + 1 + x → j < k → k < n → k < l → l < n → Ev t i j k l))) _ (n - (i + 1)) (by omega) (fun x s hx hs2 => ?_) (fun s hs2 => ?_) ⟨b0, rfl, ⟨fun h => ⟨h, fun j k l h1 h2 => by omega⟩, fun h => h.1⟩⟩
    · obtain ⟨b, rfl, hb⟩ := hs2
      left
      obtain ⟨_, f1, c, rfl, f2⟩ := l3 i (i + 1 + x) b (by omega) (by omega)
      refine ⟨(nt_i c, nI (i + 1 + (x + 1))), ?_, c, rfl, f2.trans ⟨fun h => ⟨(hb.mp h.1).1, fun j k l h1 h2 h3 h4 h5 h6 => ?_⟩, fun h => ⟨hb.mpr ⟨h.1, fun j k l h1 h2 => h.2 j k l h1 (by omega)⟩, fun k l h1 h2 h3 h4 => h.2 _ k l (by omega) (by omega) h1 h2 h3 h4⟩⟩⟩
      · show B_X6_areFit_16 (nI i) st pad (nt_i b) (nI (i + 1 + x)) = _
        unfold B_X6_areFit_16
        rw [nt_many hs, ml_b, if_neg (nI_ge (show i + 1 + x < n by omega) (by omega)), ml_let, nI_1, f1, ml_b, ml_let]
        rfl
      · by_cases e : j = i + 1 + x
        · rw [e] at h3 ⊢
          exact h.2 k l h3 h4 h5 h6
        · exact (hb.mp h.1).2 j k l h1 (by omega) h3 h4 h5 h6
    · obtain ⟨b, rfl, hb⟩ := hs2
      rw [show i + 1 + (n - (i + 1)) = n by omega] at hb ⊢
      refine ⟨nt_i b, ?_, b, rfl, hb⟩
      show B_X6_areFit_16 (nI i) st pad (nt_i b) (nI n) = _
      unfold B_X6_areFit_16
      rw [nt_many hs, ml_b, if_pos (nI_le (Nat.le_refl _) (by omega))]
  have l1 : ∃ r, on_loop (fun (s : Int32 × Int32) => B_X6_areFit_4 st pad s.1 s.2) on_F ((1 : Int32), (0 : Int32)) = some r ∧ ∃ b, r = nt_i b ∧ (b = true ↔ (∀ i j k l, i < n → i < j → j < n → j < k → k < n → k < l → l < n → Ev t i j k l)) := by
    refine ml_invF (fun x s => ∃ b, s = (nt_i b, nI x) ∧ (b = true ↔ (∀ i j k l, i < x → i < j → j < n → j < k → k < n → k < l → l < n → Ev t i j k l))) _ n (by omega) (fun x s hx hs2 => ?_) (fun s hs2 => ?_) ⟨true, rfl, ⟨fun _ i j k l h => absurd h (Nat.not_lt_zero i), fun _ => rfl⟩⟩
    · obtain ⟨b, rfl, hb⟩ := hs2
      left
      obtain ⟨_, f1, c, rfl, f2⟩ := l2 x b hx
      refine ⟨(nt_i c, nI (x + 1)), ?_, c, rfl, f2.trans ⟨fun h i j k l h0 h1 h2 h3 h4 h5 h6 => ?_, fun h => ⟨hb.mpr (fun i j k l h0 => h i j k l (by omega)), fun j k l h1 h2 h3 h4 h5 h6 => h x j k l (by omega) h1 h2 h3 h4 h5 h6⟩⟩⟩
      · show B_X6_areFit_4 st pad (nt_i b) (nI x) = _
        unfold B_X6_areFit_4
        rw [nt_many hs, ml_b, if_neg (nI_ge hx (by omega)), ml_let, nI_1, f1, ml_b, ml_let]
      · by_cases e : i = x
        · rw [e] at h1 ⊢
          exact h.2 j k l h1 h2 h3 h4 h5 h6
        · exact hb.mp h.1 i j k l (by omega) h1 h2 h3 h4 h5 h6
    · obtain ⟨b, rfl, hb⟩ := hs2
      refine ⟨nt_i b, ?_, b, rfl, hb⟩
      show B_X6_areFit_4 st pad (nt_i b) (nI n) = _
      unfold B_X6_areFit_4
      rw [nt_many hs, ml_b, if_pos (nI_le (Nat.le_refl _) (by omega))]
  obtain ⟨_, h1, b, rfl, h2⟩ := l1
  refine ⟨b, ?_, h2.trans ⟨fun h i j k l h1 h2 h3 h4 => h i j k l (by omega) h1 (by omega) h2 (by omega) h3 h4, fun h i j k l _ h1 _ h2 _ h3 h4 => h i j k l h1 h2 h3 h4⟩⟩
  unfold M_X6_areFit
  rw [h1, ml_b, ml_gd (nt_isb b)]
/-! the net in which node 0 is alone -/
def nt_tB (n : Nat) (d : Nat → Bool) : Nat → Nat → Bool := fun p q => if p = q ∨ p = 0 ∨ q = 0 then false else d (px n 0 (min p q) (max p q))
theorem nt_tB_G (n : Nat) (d : Nat → Bool) : nt_G (nt_tB n d) := ⟨fun p q => by
  unfold nt_tB
  by_cases e : p = q ∨ p = 0 ∨ q = 0
  · rw [if_pos e, if_pos (by omega)]
  · rw [if_neg e, if_neg (by omega), Nat.min_comm, Nat.max_comm], fun p => if_pos (Or.inl rfl)⟩
theorem nt_tB_lt {n : Nat} {d : Nat → Bool} {p q : Nat} (h0 : 0 < p) (h : p < q) : nt_tB n d p q = d (px n 0 p q) := by
  unfold nt_tB
  rw [if_neg (by omega), Nat.min_eq_left (by omega), Nat.max_eq_right (by omega)]
theorem nt_tB_0 {n : Nat} {d : Nat → Bool} (q : Nat) : nt_tB n d 0 q = false := if_pos (by omega)
def nt_ok (n : Nat) (d : Nat → Bool) : Prop := ∀ p q r, 0 < p → p < q → q < r → r < n → (nt_tB n d p q ^^ (nt_tB n d p r ^^ nt_tB n d q r)) = d (px n p q r)
theorem nt_ok_fit {n : Nat} {d : Nat → Bool} : nt_ok n d ↔ ∀ i j k l, i < j → j < k → k < l → l < n → Ev (fun p q r => d (px n p q r)) i j k l := by
  constructor
  · intro h i j k l hi hj hk hl
    show (d (px n i j k) ^^ (d (px n i j l) ^^ (d (px n i k l) ^^ d (px n j k l)))) = false
    by_cases e : i = 0
    · rw [e, ← nt_tB_lt (n := n) (d := d) (show 0 < j by omega) hj, ← nt_tB_lt (n := n) (d := d) (show 0 < j by omega) (show j < l by omega), ← nt_tB_lt (n := n) (d := d) (show 0 < k by omega) hk, ← h j k l (by omega) hj hk hl]
      cases nt_tB n d j k <;> cases nt_tB n d j l <;> cases nt_tB n d k l <;> rfl
    · rw [← h i j k (by omega) hi hj (by omega), ← h i j l (by omega) hi (by omega) hl, ← h i k l (by omega) (by omega) hk hl, ← h j k l (by omega) hj hk hl]
      cases nt_tB n d i j <;> cases nt_tB n d i k <;> cases nt_tB n d i l <;> cases nt_tB n d j k <;> cases nt_tB n d j l <;> cases nt_tB n d k l <;> rfl
  · intro h p q r h0 hp hq hr
    have h1 : (d (px n 0 p q) ^^ (d (px n 0 p r) ^^ (d (px n 0 q r) ^^ d (px n p q r)))) = false := h 0 p q r h0 hp hq hr
    rw [nt_tB_lt h0 hp, nt_tB_lt h0 (by omega), nt_tB_lt (by omega) hq]
    revert h1
    cases d (px n 0 p q) <;> cases d (px n 0 p r) <;> cases d (px n 0 q r) <;> cases d (px n p q r) <;> simp
theorem nt_netOfTriples {n : Nat} {st pad : Nat → Int32} (hn : n < 8) (hn3 : 3 ≤ n) (hs : st 0 = nI n) (hd : ∀ i, i < nt_n3f n → pad i = 48 ∨ pad i = 49) : M_X6_netOfTriples st pad = some (nI (nt_enc n (nt_tB n (dg pad)))) := by
  have inner : ∀ i, 0 < i → i < n → ∀ x, x < 2 ^ nt_np n → (∀ u v, u < v → v < n → nt_adj n x u v = (nt_pr i (i + 1) u v && nt_tB n (dg pad) u v)) → ∃ r, on_loop (fun (z : Int32 × Int32) => B_X6_netOfTriples_16 (nI i) st pad z.1 z.2) on_F (nI x, nI (i + 1)) = some r ∧ ∃ y, r = nI y ∧ y < 2 ^ nt_np n ∧ ∀ u v, u < v → v < n → nt_adj n y u v = (nt_pr (i + 1) (i + 1 + 1) u v && nt_tB n (dg pad) u v) := by
    intro i hi0 hi x hx hr
    refine ml_invF (fun k z => ∃ y, z = (nI y, nI (i + 1 + k)) ∧ y < 2 ^ nt_np n ∧ ∀ u v, u < v → v < n → nt_adj n y u v = (nt_pr i (i + 1 + k) u v && nt_tB n (dg pad) u v)) _ (n - (i + 1)) (by omega) (fun k z hk hz => ?_) (fun z hz => ?_) ⟨x, rfl, hx, hr⟩
    · obtain ⟨y, rfl, hy, hr⟩ := hz
      left
      have hj : i + 1 + k < n := by omega
      have htold := nt_told (pad := pad) hn hs hd hi0 (show i < i + 1 + k by omega) hj
      rw [← nt_tB_lt (n := n) (d := dg pad) hi0 (show i < i + 1 + k by omega)] at htold
      have htold : M_X6_told 0 (nI i) (nI (i + 1 + k)) st pad = _ := htold
      cases hb : nt_tB n (dg pad) i (i + 1 + k) with
      | false =>
        rw [hb] at htold
        refine ⟨(nI y, nI (i + 1 + (k + 1))), ?_, y, rfl, hy, fun u v hu hv => ?_⟩
        · show B_X6_netOfTriples_16 (nI i) st pad (nI y) (nI (i + 1 + k)) = _
          unfold B_X6_netOfTriples_16
          rw [nt_many hs, ml_b, if_neg (nI_ge hj (by omega)), htold, ml_b, if_neg (by decide), ml_let, ml_let, nI_1, nt_n0, fa_or, Nat.or_zero]
          rfl
        · rw [hr u v hu hv, show i + 1 + (k + 1) = (i + 1 + k) + 1 by omega, nt_pr_step]
          by_cases e : u = i ∧ v = i + 1 + k
          · rw [e.1, e.2, hb, Bool.and_false, Bool.and_false]
          · have : (decide (u = i) && decide (v = i + 1 + k)) = false := by
              by_cases e1 : u = i
              · simp [show ¬ v = i + 1 + k from fun z => e ⟨e1, z⟩]
              · simp [e1]
            rw [this, Bool.or_false]
      | true =>
        rw [hb] at htold
        obtain ⟨f1, f2⟩ := nt_orb hn hy (show i < i + 1 + k by omega) hj
        refine ⟨(nI (y ||| 2 ^ (nt_np n - 1 - nt_ix n i (i + 1 + k))), nI (i + 1 + (k + 1))), ?_, _, rfl, f1, fun u v hu hv => ?_⟩
        · show B_X6_netOfTriples_16 (nI i) st pad (nI y) (nI (i + 1 + k)) = _
          unfold B_X6_netOfTriples_16
          rw [nt_many hs, ml_b, if_neg (nI_ge hj (by omega)), htold, ml_b, if_pos nt_i1, ml_b, nt_valueOf_lt hn (show i < i + 1 + k by omega) hj, ml_b, ml_let, ml_let, nI_1, fa_or]
          rfl
        · rw [f2 u v hu hv, hr u v hu hv, show i + 1 + (k + 1) = (i + 1 + k) + 1 by omega, nt_pr_step]
          by_cases e : u = i ∧ v = i + 1 + k
          · rw [e.1, e.2, hb]
            simp
          · have : (decide (u = i) && decide (v = i + 1 + k)) = false := by
              by_cases e1 : u = i
              · simp [show ¬ v = i + 1 + k from fun z => e ⟨e1, z⟩]
              · simp [e1]
            rw [this, Bool.or_false, Bool.or_false]
    · obtain ⟨y, rfl, hy, hr⟩ := hz
      rw [show i + 1 + (n - (i + 1)) = n by omega] at hr
      refine ⟨nI y, ?_, y, rfl, hy, fun u v hu hv => ?_⟩
      · show B_X6_netOfTriples_16 (nI i) st pad (nI y) (nI (i + 1 + (n - (i + 1)))) = _
        rw [show i + 1 + (n - (i + 1)) = n by omega]
        unfold B_X6_netOfTriples_16
        rw [nt_many hs, ml_b, if_pos (nI_le (Nat.le_refl n) (by omega))]
      · rw [hr u v hu hv, nt_pr_row (n := n) hu hv]
  have outer : ∃ r, on_loop (fun (z : Int32 × Int32) => B_X6_netOfTriples_4 st pad z.1 z.2) on_F ((0 : Int32), (1 : Int32)) = some r ∧ r = nI (nt_enc n (nt_tB n (dg pad))) := by
    refine ml_invF (fun i z => ∃ y, z = (nI y, nI (i + 1)) ∧ y < 2 ^ nt_np n ∧ ∀ u v, u < v → v < n → nt_adj n y u v = (nt_pr (i + 1) (i + 1 + 1) u v && nt_tB n (dg pad) u v)) _ (n - 1) (by omega) (fun i z hi hz => ?_) (fun z hz => ?_) ⟨0, rfl, Nat.two_pow_pos _, fun u v hu hv => ?_⟩
    · obtain ⟨y, rfl, hy, hr⟩ := hz
      left
      obtain ⟨r, h1, y2, rfl, hy2, hr2⟩ := inner (i + 1) (by omega) (by omega) y hy hr
      refine ⟨(nI y2, nI (i + 1 + 1)), ?_, y2, rfl, hy2, hr2⟩
      show B_X6_netOfTriples_4 st pad (nI y) (nI (i + 1)) = _
      unfold B_X6_netOfTriples_4
      rw [nt_many hs, ml_b, if_neg (nI_ge (show i + 1 < n by omega) (by omega)), ml_let, nI_1, h1, ml_b, ml_let]
    · obtain ⟨y, rfl, hy, hr⟩ := hz
      rw [show n - 1 + 1 = n by omega] at hr
      refine ⟨nI y, ?_, ?_⟩
      · show B_X6_netOfTriples_4 st pad (nI y) (nI (n - 1 + 1)) = _
        rw [show n - 1 + 1 = n by omega]
        unfold B_X6_netOfTriples_4
        rw [nt_many hs, ml_b, if_pos (nI_le (Nat.le_refl n) (by omega))]
      · rw [nt_num_enc (B := nt_tB n (dg pad)) hn hy (fun u v hu hv => by
          rw [hr u v hu hv, nt_pr_n (by omega)]
          rfl)]
    · rw [nt_adj_lt hu, Nat.zero_testBit]
      by_cases e : u = 0
      · rw [e, nt_tB_0, Bool.and_false]
      · unfold nt_pr
        rw [decide_eq_false (show ¬ u < 0 + 1 by omega), decide_eq_false (show ¬ (v < 0 + 1 + 1) by omega)]
        simp
  obtain ⟨r, h1, rfl⟩ := outer
  unfold M_X6_netOfTriples
  exact ml_bb h1 rfl
