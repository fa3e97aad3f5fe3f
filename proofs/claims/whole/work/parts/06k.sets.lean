/-! ===== through all sets without the first node ===== -/
theorem nt_pow2 {n : Nat} (h : 1 ≤ n) : 2 ^ n = 2 * 2 ^ (n - 1) := by
  obtain ⟨m, rfl⟩ : ∃ m, n = m + 1 := ⟨n - 1, by omega⟩
  rw [Nat.pow_succ, Nat.add_sub_cancel]
  omega
theorem nt_half {n : Nat} (hn : n < 8) : 2 ^ (n - 1) ≤ 64 := Nat.le_trans (Nat.pow_le_pow_right (by decide) (show n - 1 ≤ 6 by omega)) (by decide)
theorem nt_add2 (t : Nat) : nI (2 * t) + 2 = nI (2 * (t + 1)) := by
  rw [show (2 : Int32) = nI 2 by decide, nI_add]
  rfl
theorem nt_cn_le : ∀ l : List Bool, nt_cn l ≤ l.length
  | [] => Nat.le_refl 0
  | b :: t => by
    have h := nt_cn_le t
    have : b.toNat ≤ 1 := by cases b <;> decide
    show b.toNat + nt_cn t ≤ t.length + 1
    omega
theorem sp_jp_le {n : Nat} (hn : n < 8) {A : Nat → Nat → Bool} (h : nt_G A) : sp_jp n A ≤ nt_np n := by
  unfold sp_jp
  rw [nt_hand hn h, Nat.mul_div_cancel_left _ (by decide)]
  have := nt_cn_le ((nt_PL n).map fun x => A x.1 x.2)
  rw [List.length_map, nt_PLlen n hn] at this
  exact this
def sp_fs1 (x t : Nat) (s : Nat × Nat × Nat) : Nat × Nat × Nat := if s.1 ≤ x then (if x = s.1 then (s.1, s.2.1, s.2.2 + 1) else s) else (x, 2 * t, 1)
def sp_fs (x : Nat → Nat) : Nat → Nat × Nat × Nat
  | 0 => (x 0, 0, 1)
  | t + 1 => sp_fs1 (x (t + 1)) (t + 1) (sp_fs x t)
theorem sp_fs_b {x : Nat → Nat} (hx : ∀ t, x t < 50) : ∀ t, (sp_fs x t).1 < 50 ∧ (sp_fs x t).2.2 ≤ t + 1
  | 0 => ⟨hx 0, Nat.le_refl 1⟩
  | t + 1 => by
    have h := sp_fs_b hx t
    have h2 := hx (t + 1)
    show (sp_fs1 (x (t + 1)) (t + 1) (sp_fs x t)).1 < 50 ∧ (sp_fs1 (x (t + 1)) (t + 1) (sp_fs x t)).2.2 ≤ t + 1 + 1
    unfold sp_fs1
    split
    · split
      · exact ⟨h.1, by show (sp_fs x t).2.2 + 1 ≤ _; omega⟩
      · exact ⟨h.1, by omega⟩
    · exact ⟨h2, by show 1 ≤ _; omega⟩
def sp_x (n : Nat) (A : Nat → Nat → Bool) (t : Nat) : Nat := sp_jp n (nt_sw A (2 * t))
theorem sp_x_lt {n : Nat} (hn : n < 8) {A : Nat → Nat → Bool} (h : nt_G A) (t : Nat) : sp_x n A t ≤ nt_np n := sp_jp_le hn (nt_sw_G h _)
def sp_fw (n : Nat) (A : Nat → Nat → Bool) : Nat × Nat × Nat := sp_fs (sp_x n A) (2 ^ (n - 1) - 1)
theorem nt_fewest {n : Nat} {A : Nat → Nat → Bool} {rows : Nat → Int32} (hn : n < 8) (hn3 : 3 ≤ n) (hG : nt_G A) (h : nt_Rep n A rows) (m0 : Int32) (r0 : Nat → Int32) :
    ∃ r, on_loop (fun (s : Int32 × Int32 × Int32 × Int32 × Int32 × (Nat → Int32)) => B_X5_fewest_52 (nI n) (nI n) rows s.1 s.2.1 s.2.2.1 s.2.2.2.1 s.2.2.2.2.1 s.2.2.2.2.2) on_F (nI (nt_np n) + (1 : Int32), (0 : Int32), (0 : Int32), (0 : Int32), m0, r0) = some r ∧ ∃ m1 r1, r = (nI (sp_fw n A).1, nI (sp_fw n A).2.1, nI (sp_fw n A).2.2, m1, r1) := by
  have hp := nt_pow2 (show 1 ≤ n by omega)
  have hh := nt_half hn
  have hpos := Nat.two_pow_pos (n - 1)
  have hnp := nt_np_lt n hn
  have hx : ∀ t, sp_x n A t < 50 := fun t => by have := sp_x_lt hn hG t; omega
  refine ml_invF (fun i s => ∃ (b : Nat) (st c : Int32) (m1 : Int32) (r1 : Nat → Int32), s = (nI b, st, c, nI (2 * i), m1, r1) ∧ b < 100 ∧ ((i = 0 ∧ ∀ t, sp_x n A t < b) ∨ (1 ≤ i ∧ b = (sp_fs (sp_x n A) (i - 1)).1 ∧ st = nI (sp_fs (sp_x n A) (i - 1)).2.1 ∧ c = nI (sp_fs (sp_x n A) (i - 1)).2.2))) _ (2 ^ (n - 1)) (by omega) (fun i s hi hs => ?_) (fun s hs => ?_) ⟨nt_np n + 1, 0, 0, m0, r0, by rw [nI_1]; rfl, by omega, Or.inl ⟨rfl, fun t => by have := sp_x_lt hn hG t; omega⟩⟩
  · obtain ⟨b, st, c, m1, r1, rfl, hb, hc⟩ := hs
    left
    obtain ⟨r2, h1, h2⟩ := nt_copySwitched (rows0 := r1) hn (show 2 * i < 2 ^ n by omega) h
    have hj := nt_joinedPairs hn h2
    have start : B_X5_fewest_52 (nI n) (nI n) rows (nI b) st c (nI (2 * i)) m1 r1 = (if nI b ≤ nI (sp_x n A i) then (if nI (sp_x n A i) = nI b then (on_let (c + 1) (fun (v5_14 : Int32) => (on_let (nI (2 * i) + 2) (fun (v6_15 : Int32) => (some (Sum.inl (nI b, st, v5_14, v6_15, nI n, r2))))))) else (on_let (nI (2 * i) + 2) (fun (v6_13 : Int32) => (some (Sum.inl (nI b, st, c, v6_13, nI n, r2)))))) else (if nI (sp_x n A i) = nI (sp_x n A i) then (on_let ((0 : Int32) + 1) (fun (v5_18 : Int32) => (on_let (nI (2 * i) + 2) (fun (v6_19 : Int32) => (some (Sum.inl (nI (sp_x n A i), nI (2 * i), v5_18, v6_19, nI n, r2))))))) else (on_let (nI (2 * i) + 2) (fun (v6_17 : Int32) => (some (Sum.inl (nI (sp_x n A i), nI (2 * i), (0 : Int32), v6_17, nI n, r2))))))) := by
      unfold B_X5_fewest_52
      rw [nt_sh1 n (by omega), if_neg (nI_ge (by omega) (by omega)), h1, ml_b]
      show (M_X0_joinedPairs (nI n) r2).bind _ = _
      rw [hj, ml_b]
      rfl
    have hxi := hx i
    by_cases e1 : b ≤ sp_x n A i
    · have hi1 : 1 ≤ i := by
        rcases hc with ⟨-, hc⟩ | ⟨hc, -⟩
        · have := hc i; omega
        · exact hc
      rcases hc with ⟨rfl, hc⟩ | ⟨-, hb2, hst, hct⟩
      · omega
      · obtain ⟨i', rfl⟩ : ∃ i', i = i' + 1 := ⟨i - 1, by omega⟩
        rw [Nat.add_sub_cancel] at hb2 hst hct
        by_cases e2 : sp_x n A (i' + 1) = b
        · refine ⟨(nI b, st, c + 1, nI (2 * (i' + 1 + 1)), nI n, r2), ?_, b, st, c + 1, nI n, r2, rfl, hb, Or.inr ⟨by omega, ?_⟩⟩
          · rw [start, if_pos (nI_le e1 (by omega)), if_pos (by rw [e2]), ml_let, ml_let, nt_add2]
          · rw [Nat.add_sub_cancel]
            show b = (sp_fs1 _ _ _).1 ∧ st = nI (sp_fs1 _ _ _).2.1 ∧ c + 1 = nI (sp_fs1 _ _ _).2.2
            unfold sp_fs1
            rw [if_pos (by omega), if_pos (by omega)]
            exact ⟨hb2, hst, by rw [hct, nI_1]⟩
        · refine ⟨(nI b, st, c, nI (2 * (i' + 1 + 1)), nI n, r2), ?_, b, st, c, nI n, r2, rfl, hb, Or.inr ⟨by omega, ?_⟩⟩
          · rw [start, if_pos (nI_le e1 (by omega)), if_neg (fun z => e2 ((nI_eq (by omega) (by omega)).mp z)), ml_let, nt_add2]
          · rw [Nat.add_sub_cancel]
            show b = (sp_fs1 _ _ _).1 ∧ st = nI (sp_fs1 _ _ _).2.1 ∧ c = nI (sp_fs1 _ _ _).2.2
            unfold sp_fs1
            rw [if_pos (by omega), if_neg (by omega)]
            exact ⟨hb2, hst, hct⟩
    · refine ⟨(nI (sp_x n A i), nI (2 * i), 0 + 1, nI (2 * (i + 1)), nI n, r2), ?_, sp_x n A i, nI (2 * i), 0 + 1, nI n, r2, rfl, by omega, Or.inr ⟨by omega, ?_⟩⟩
      · rw [start, if_neg (nI_ge (by omega) (by omega)), if_pos rfl, ml_let, ml_let, nt_add2]
      · rw [Nat.add_sub_cancel]
        rcases hc with ⟨rfl, hc⟩ | ⟨hi1, hb2, hst, hct⟩
        · exact ⟨rfl, rfl, rfl⟩
        · obtain ⟨i', rfl⟩ : ∃ i', i = i' + 1 := ⟨i - 1, by omega⟩
          rw [Nat.add_sub_cancel] at hb2
          show sp_x n A (i' + 1) = (sp_fs1 _ _ _).1 ∧ nI (2 * (i' + 1)) = nI (sp_fs1 _ _ _).2.1 ∧ (0 : Int32) + 1 = nI (sp_fs1 _ _ _).2.2
          unfold sp_fs1
          rw [if_neg (by omega)]
          exact ⟨rfl, rfl, rfl⟩
  · obtain ⟨b, st, c, m1, r1, rfl, hb, hc⟩ := hs
    rcases hc with ⟨h0, -⟩ | ⟨-, hb2, hst, hct⟩
    · omega
    · refine ⟨(nI b, st, c, m1, r1), ?_, m1, r1, by rw [hb2, hst, hct]; rfl⟩
      show B_X5_fewest_52 (nI n) (nI n) rows (nI b) st c (nI (2 * 2 ^ (n - 1))) m1 r1 = _
      unfold B_X5_fewest_52
      rw [nt_sh1 n (by omega), ← hp, if_pos (nI_le (Nat.le_refl _) (by omega))]
theorem nt_mFewest {n a k : Nat} {st : Nat → Int32} (hn : n < 8) (hn3 : 3 ≤ n) (ha : a < 2 ^ nt_np n) (hk : k < 3) (hs : st 0 = nI n) (hs2 : st (1 + k) = nI a) (l0 c0 : Int32) :
    on_loop (fun (s : Int32 × Int32 × Int32 × Int32) => B_X6_fewest_29 (nI k) st s.1 s.2.1 s.2.2.1 s.2.2.2) on_F ((0 : Int32), (99 : Int32), l0, c0) = some (nI (sp_fw n (nt_adj n a)).1, nI (sp_fw n (nt_adj n a)).2.1, nI (sp_fw n (nt_adj n a)).2.2) := by
  have hG := nt_adj_G n a
  have hp := nt_pow2 (show 1 ≤ n by omega)
  have hh := nt_half hn
  have hpos := Nat.two_pow_pos (n - 1)
  have hnp := nt_np_lt n hn
  have hx : ∀ t, sp_x n (nt_adj n a) t < 50 := fun t => by have := sp_x_lt hn hG t; omega
  have loop : ∃ r, on_loop (fun (s : Int32 × Int32 × Int32 × Int32) => B_X6_fewest_29 (nI k) st s.1 s.2.1 s.2.2.1 s.2.2.2) on_F ((0 : Int32), (99 : Int32), l0, c0) = some r ∧ r = (nI (sp_fw n (nt_adj n a)).1, nI (sp_fw n (nt_adj n a)).2.1, nI (sp_fw n (nt_adj n a)).2.2) := by
    refine ml_invF (fun i s => ∃ (b : Nat) (l c : Int32), s = (nI (2 * i), nI b, l, c) ∧ b < 100 ∧ ((i = 0 ∧ ∀ t, sp_x n (nt_adj n a) t < b) ∨ (1 ≤ i ∧ b = (sp_fs (sp_x n (nt_adj n a)) (i - 1)).1 ∧ l = nI (sp_fs (sp_x n (nt_adj n a)) (i - 1)).2.1 ∧ c = nI (sp_fs (sp_x n (nt_adj n a)) (i - 1)).2.2))) _ (2 ^ (n - 1)) (by omega) (fun i s hi hs3 => ?_) (fun s hs3 => ?_) ⟨99, l0, c0, rfl, by omega, Or.inl ⟨rfl, fun t => by have := hx t; omega⟩⟩
    · obtain ⟨b, l, c, rfl, hb, hc⟩ := hs3
      left
      have hsz := nt_size_enc hn (nt_sw_G hG (2 * i))
      have start : B_X6_fewest_29 (nI k) st (nI (2 * i)) (nI b) l c = (if nI b ≤ nI (sp_x n (nt_adj n a) i) then (if nI (sp_x n (nt_adj n a) i) = nI b then (on_let (c + (1 : Int32)) (fun (t_found_15 : Int32) => (on_let (nI (2 * i) + 2) (fun (v3_16 : Int32) => (some (Sum.inl (v3_16, nI b, l, t_found_15))))))) else (on_let (c + (0 : Int32)) (fun (t_found_13 : Int32) => (on_let (nI (2 * i) + 2) (fun (v3_14 : Int32) => (some (Sum.inl (v3_14, nI b, l, t_found_13)))))))) else (if nI (sp_x n (nt_adj n a) i) = nI (sp_x n (nt_adj n a) i) then (on_let ((0 : Int32) + (1 : Int32)) (fun (t_found_20 : Int32) => (on_let (nI (2 * i) + 2) (fun (v3_21 : Int32) => (some (Sum.inl (v3_21, nI (sp_x n (nt_adj n a) i), nI (2 * i), t_found_20))))))) else (on_let ((0 : Int32) + (0 : Int32)) (fun (t_found_18 : Int32) => (on_let (nI (2 * i) + 2) (fun (v3_19 : Int32) => (some (Sum.inl (v3_19, nI (sp_x n (nt_adj n a) i), nI (2 * i), t_found_18))))))))) := by
        unfold B_X6_fewest_29
        rw [nt_many hs, ml_b, nt_sh1 n (by omega), if_neg (nI_ge (by omega) (by omega)), ml_b, nt_netOf hk, ml_b, hs2, nt_switched hn ha (by omega), ml_b, hsz, ml_b]
        rfl
      have hxi := hx i
      by_cases e1 : b ≤ sp_x n (nt_adj n a) i
      · rcases hc with ⟨rfl, hc⟩ | ⟨hi1, hb2, hst, hct⟩
        · have := hc 0
          omega
        · obtain ⟨i', rfl⟩ : ∃ i', i = i' + 1 := ⟨i - 1, by omega⟩
          rw [Nat.add_sub_cancel] at hb2 hst hct
          by_cases e2 : sp_x n (nt_adj n a) (i' + 1) = b
          · refine ⟨(nI (2 * (i' + 1 + 1)), nI b, l, c + 1), ?_, b, l, c + 1, rfl, hb, Or.inr ⟨by omega, ?_⟩⟩
            · show B_X6_fewest_29 (nI k) st (nI (2 * (i' + 1))) (nI b) l c = _
              rw [start, if_pos (nI_le e1 (by omega)), if_pos (by rw [e2]), ml_let, ml_let, nt_add2]
            · rw [Nat.add_sub_cancel]
              show b = (sp_fs1 _ _ _).1 ∧ l = nI (sp_fs1 _ _ _).2.1 ∧ c + 1 = nI (sp_fs1 _ _ _).2.2
              unfold sp_fs1
              rw [if_pos (by omega), if_pos (by omega)]
              exact ⟨hb2, hst, by rw [hct, nI_1]⟩
          · refine ⟨(nI (2 * (i' + 1 + 1)), nI b, l, c), ?_, b, l, c, rfl, hb, Or.inr ⟨by omega, ?_⟩⟩
            · show B_X6_fewest_29 (nI k) st (nI (2 * (i' + 1))) (nI b) l c = _
              rw [start, if_pos (nI_le e1 (by omega)), if_neg (fun z => e2 ((nI_eq (by omega) (by omega)).mp z)), ml_let, ml_let, nt_add2, Int32.add_zero]
            · rw [Nat.add_sub_cancel]
              show b = (sp_fs1 _ _ _).1 ∧ l = nI (sp_fs1 _ _ _).2.1 ∧ c = nI (sp_fs1 _ _ _).2.2
              unfold sp_fs1
              rw [if_pos (by omega), if_neg (by omega)]
              exact ⟨hb2, hst, hct⟩
      · refine ⟨(nI (2 * (i + 1)), nI (sp_x n (nt_adj n a) i), nI (2 * i), 0 + 1), ?_, sp_x n (nt_adj n a) i, nI (2 * i), 0 + 1, rfl, by omega, Or.inr ⟨by omega, ?_⟩⟩
        · show B_X6_fewest_29 (nI k) st (nI (2 * i)) (nI b) l c = _
          rw [start, if_neg (nI_ge (by omega) (by omega)), if_pos rfl, ml_let, ml_let, nt_add2]
        · rw [Nat.add_sub_cancel]
          rcases hc with ⟨rfl, hc⟩ | ⟨hi1, hb2, hst, hct⟩
          · exact ⟨rfl, rfl, rfl⟩
          · obtain ⟨i', rfl⟩ : ∃ i', i = i' + 1 := ⟨i - 1, by omega⟩
            rw [Nat.add_sub_cancel] at hb2
            show sp_x n (nt_adj n a) (i' + 1) = (sp_fs1 _ _ _).1 ∧ nI (2 * (i' + 1)) = nI (sp_fs1 _ _ _).2.1 ∧ (0 : Int32) + 1 = nI (sp_fs1 _ _ _).2.2
            unfold sp_fs1
            rw [if_neg (by omega)]
            exact ⟨rfl, rfl, rfl⟩
    · obtain ⟨b, l, c, rfl, hb, hc⟩ := hs3
      rcases hc with ⟨h0, -⟩ | ⟨-, hb2, hst, hct⟩
      · omega
      · refine ⟨(nI b, l, c), ?_, by rw [hb2, hst, hct]; rfl⟩
        show B_X6_fewest_29 (nI k) st (nI (2 * 2 ^ (n - 1))) (nI b) l c = _
        unfold B_X6_fewest_29
        rw [nt_many hs, ml_b, nt_sh1 n (by omega), ← hp, if_pos (nI_le (Nat.le_refl _) (by omega))]
  obtain ⟨r, h1, rfl⟩ := loop
  exact h1
/-! ===== the first set of a kind, and how many ===== -/
def sp_fi (P : Nat → Bool) : Nat → Int32
  | 0 => -6
  | n + 1 => if fb_ct P n = 0 then (if P n = true then nI (2 * n) else -6) else sp_fi P n
theorem sp_fi0 {P : Nat → Bool} : ∀ {n : Nat}, fb_ct P n = 0 → sp_fi P n = -6
  | 0, _ => rfl
  | n + 1, h => by
    rw [fb_ct_succ] at h
    show (if fb_ct P n = 0 then (if P n = true then nI (2 * n) else -6) else sp_fi P n) = -6
    have h1 : fb_ct P n = 0 := by omega
    have h2 : ¬ P n = true := fun e => by rw [if_pos e] at h; omega
    rw [if_pos h1, if_neg h2]
theorem sp_fi1 {P : Nat → Bool} {m : Nat} (h0 : fb_ct P m = 0) (hm : P m = true) : ∀ {n : Nat}, m < n → sp_fi P n = nI (2 * m)
  | 0, h => absurd h (Nat.not_lt_zero m)
  | n + 1, h => by
    show (if fb_ct P n = 0 then (if P n = true then nI (2 * n) else -6) else sp_fi P n) = _
    by_cases e : m = n
    · subst e
      rw [if_pos h0, if_pos hm]
    · have hlt : m < n := by omega
      have : ¬ fb_ct P n = 0 := fun z => by
        have := (fb_ct_zero.mp z) m hlt
        rw [hm] at this
        cases this
      rw [if_neg this]
      exact sp_fi1 h0 hm hlt
theorem nt_howMany {n : Nat} {A : Nat → Nat → Bool} {rows : Nat → Int32} {dv : Int32} {Pd : (Nat → Nat → Bool) → Bool} (hn : n < 8) (hn3 : 3 ≤ n) (h : nt_Rep n A rows) (hd : ∀ B rows, nt_Rep n B rows → M_X0_eachDegreeIs dv (nI n) rows = some (nt_i (Pd B))) (strong : Bool) (m0 : Int32) (r0 : Nat → Int32) :
    ∃ m1 r1, M_X5_howManyBy dv (nt_i strong) (nI n) rows m0 r0 = some (nI (fb_ct (fun t => Pd (nt_sw A (2 * t)) && (!strong || sp_st n (nt_sw A (2 * t)))) (2 ^ (n - 1))), m1, r1) := by
  have hp := nt_pow2 (show 1 ≤ n by omega)
  have hh := nt_half hn
  have hpos := Nat.two_pow_pos (n - 1)
  have loop : ∃ r, on_loop (fun (s : Int32 × Int32 × Int32 × (Nat → Int32)) => B_X5_howManyBy_5 dv (nt_i strong) (nI n) rows s.1 s.2.1 s.2.2.1 s.2.2.2) on_F ((0 : Int32), (0 : Int32), m0, r0) = some r ∧ ∃ m1 r1, r = (nI (fb_ct (fun t => Pd (nt_sw A (2 * t)) && (!strong || sp_st n (nt_sw A (2 * t)))) (2 ^ (n - 1))), m1, r1) := by
    refine ml_invF (fun i s => ∃ m1 r1, s = (nI (fb_ct (fun t => Pd (nt_sw A (2 * t)) && (!strong || sp_st n (nt_sw A (2 * t)))) i), nI (2 * i), m1, r1)) _ (2 ^ (n - 1)) (by omega) (fun i s hi hs => ?_) (fun s hs => ?_) ⟨m0, r0, rfl⟩
    · obtain ⟨m1, r1, rfl⟩ := hs
      left
      obtain ⟨r2, h1, h2⟩ := nt_copySwitched (rows0 := r1) hn (show 2 * i < 2 ^ n by omega) h
      refine ⟨(nI (fb_ct (fun t => Pd (nt_sw A (2 * t)) && (!strong || sp_st n (nt_sw A (2 * t)))) (i + 1)), nI (2 * (i + 1)), nI n, r2), ?_, nI n, r2, rfl⟩
      show B_X5_howManyBy_5 dv (nt_i strong) (nI n) rows (nI (fb_ct (fun t => Pd (nt_sw A (2 * t)) && (!strong || sp_st n (nt_sw A (2 * t)))) i)) (nI (2 * i)) m1 r1 = _
      rw [fb_ct_succ]
      generalize fb_ct (fun t => Pd (nt_sw A (2 * t)) && (!strong || sp_st n (nt_sw A (2 * t)))) i = c
      unfold B_X5_howManyBy_5
      rw [nt_sh1 n (by omega), if_neg (nI_ge (by omega) (by omega)), h1, ml_b]
      show (M_X0_eachDegreeIs dv (nI n) r2).bind _ = _
      rw [hd _ _ h2, ml_b]
      cases hP : Pd (nt_sw A (2 * i)) with
      | false =>
        rw [if_pos nt_i0, ml_let, nt_add2]
        rfl
      | true =>
        rw [if_neg (by decide)]
        cases strong with
        | false =>
          rw [if_pos nt_i0, ml_let, ml_let, nt_add2, nI_1]
          rfl
        | true =>
          rw [if_neg (by decide)]
          show (M_X0_isStrong (nI n) r2).bind _ = _
          rw [nt_isStrong hn h2, ml_b]
          cases sp_st n (nt_sw A (2 * i)) with
          | false =>
            rw [if_pos nt_i0, ml_let, nt_add2]
            rfl
          | true =>
            rw [if_neg (by decide), ml_let, ml_let, nt_add2, nI_1]
            rfl
    · obtain ⟨m1, r1, rfl⟩ := hs
      refine ⟨_, ?_, m1, r1, rfl⟩
      show B_X5_howManyBy_5 dv (nt_i strong) (nI n) rows (nI (fb_ct (fun t => Pd (nt_sw A (2 * t)) && (!strong || sp_st n (nt_sw A (2 * t)))) (2 ^ (n - 1)))) (nI (2 * 2 ^ (n - 1))) m1 r1 = _
      unfold B_X5_howManyBy_5
      rw [nt_sh1 n (by omega), ← hp, if_pos (nI_le (Nat.le_refl _) (by omega))]
  obtain ⟨r, h1, m1, r1, rfl⟩ := loop
  refine ⟨m1, r1, ?_⟩
  unfold M_X5_howManyBy
  exact ml_bb h1 rfl
theorem nt_leastSet {n : Nat} {A : Nat → Nat → Bool} {rows : Nat → Int32} {dv : Int32} {Pd : (Nat → Nat → Bool) → Bool} (hn : n < 8) (hn3 : 3 ≤ n) (h : nt_Rep n A rows) (hd : ∀ B rows, nt_Rep n B rows → M_X0_eachDegreeIs dv (nI n) rows = some (nt_i (Pd B))) (m0 : Int32) (r0 : Nat → Int32) :
    ∃ m1 r1, M_X5_leastSetBy dv (nI n) rows m0 r0 = some (sp_fi (fun t => Pd (nt_sw A (2 * t))) (2 ^ (n - 1)), m1, r1) := by
  have hp := nt_pow2 (show 1 ≤ n by omega)
  have hh := nt_half hn
  have hpos := Nat.two_pow_pos (n - 1)
  have loop : ∃ r, on_loop (fun (s : Int32 × Int32 × (Nat → Int32)) => B_X5_leastSetBy_2 dv (nI n) rows s.1 s.2.1 s.2.2) on_F ((0 : Int32), m0, r0) = some r ∧ ((∃ m1 r1, r = Sum.inl (sp_fi (fun t => Pd (nt_sw A (2 * t))) (2 ^ (n - 1)), m1, r1)) ∨ (∃ u, r = Sum.inr u ∧ sp_fi (fun t => Pd (nt_sw A (2 * t))) (2 ^ (n - 1)) = -6)) := by
    refine ml_invF (fun i s => ∃ m1 r1, s = (nI (2 * i), m1, r1) ∧ fb_ct (fun t => Pd (nt_sw A (2 * t))) i = 0) _ (2 ^ (n - 1)) (by omega) (fun i s hi hs => ?_) (fun s hs => ?_) ⟨m0, r0, rfl, rfl⟩
    · obtain ⟨m1, r1, rfl, h0⟩ := hs
      obtain ⟨r2, h1, h2⟩ := nt_copySwitched (rows0 := r1) hn (show 2 * i < 2 ^ n by omega) h
      have start : B_X5_leastSetBy_2 dv (nI n) rows (nI (2 * i)) m1 r1 = (if nt_i (Pd (nt_sw A (2 * i))) = 0 then (on_let (nI (2 * i) + 2) (fun (v2_5 : Int32) => (some (Sum.inl (v2_5, nI n, r2))))) else (some (Sum.inr (Sum.inl (nI (2 * i), nI n, r2))))) := by
        unfold B_X5_leastSetBy_2
        rw [nt_sh1 n (by omega), if_neg (nI_ge (by omega) (by omega)), h1, ml_b]
        show (M_X0_eachDegreeIs dv (nI n) r2).bind _ = _
        rw [hd _ _ h2, ml_b]
      cases hP : Pd (nt_sw A (2 * i)) with
      | false =>
        left
        refine ⟨(nI (2 * (i + 1)), nI n, r2), ?_, nI n, r2, rfl, by rw [fb_ct_succ, h0, hP]; rfl⟩
        show B_X5_leastSetBy_2 dv (nI n) rows (nI (2 * i)) m1 r1 = _
        rw [start, hP, if_pos nt_i0, ml_let, nt_add2]
      | true =>
        right
        refine ⟨Sum.inl (nI (2 * i), nI n, r2), ?_, Or.inl ⟨nI n, r2, by rw [sp_fi1 h0 hP hi]⟩⟩
        show B_X5_leastSetBy_2 dv (nI n) rows (nI (2 * i)) m1 r1 = _
        rw [start, hP, if_neg (by decide)]
    · obtain ⟨m1, r1, rfl, h0⟩ := hs
      refine ⟨Sum.inr (m1, r1), ?_, Or.inr ⟨_, rfl, sp_fi0 h0⟩⟩
      show B_X5_leastSetBy_2 dv (nI n) rows (nI (2 * 2 ^ (n - 1))) m1 r1 = _
      unfold B_X5_leastSetBy_2
      rw [nt_sh1 n (by omega), ← hp, if_pos (nI_le (Nat.le_refl _) (by omega))]
  obtain ⟨r, h1, h2⟩ := loop
  unfold M_X5_leastSetBy
  rw [h1, ml_b]
  rcases h2 with ⟨m1, r1, rfl⟩ | ⟨u, rfl, h3⟩
  · exact ⟨m1, r1, rfl⟩
  · rw [h3]
    exact ⟨u.1, u.2, rfl⟩
theorem nt_find {P : Nat → Bool} {i : Nat} (hi : i < 1000) (hP : P i = true) : M_X6_find (nI (2 * i)) (sp_fi P i) (nI (fb_ct P i)) = some (sp_fi P (i + 1), nI (fb_ct P (i + 1))) := by
  have hle := fb_ct_le P i
  unfold M_X6_find
  rw [fb_ct_succ, if_pos hP]
  show _ = some ((if fb_ct P i = 0 then (if P i = true then nI (2 * i) else -6) else sp_fi P i), _)
  by_cases e : fb_ct P i = 0
  · rw [if_pos e, if_pos hP, e, if_pos nI_0, ml_let, nI_1]
  · rw [if_neg e, if_neg (fun z => e ((nI_eq (b := 0) (by omega) (by decide)).mp (by rw [z, nI_0]))), ml_let, nI_1]
theorem nt_nofind {P : Nat → Bool} {i : Nat} (hP : P i = false) : sp_fi P (i + 1) = sp_fi P i ∧ fb_ct P (i + 1) = fb_ct P i := by
  refine ⟨?_, by rw [fb_ct_succ, hP]; rfl⟩
  show (if fb_ct P i = 0 then (if P i = true then nI (2 * i) else -6) else sp_fi P i) = _
  by_cases e : fb_ct P i = 0
  · rw [if_pos e, if_neg (by rw [hP]; decide), sp_fi0 e]
  · rw [if_neg e]
theorem nt_mEven {n a k : Nat} {st : Nat → Int32} (hn : n < 8) (hn3 : 3 ≤ n) (ha : a < 2 ^ nt_np n) (hk : k < 3) (hs : st 0 = nI n) (hs2 : st (1 + k) = nI a) :
    on_loop (fun (s : Int32 × Int32 × Int32) => B_X6_even_27 (nI k) st s.1 s.2.1 s.2.2) on_F ((0 : Int32), (-6 : Int32), (0 : Int32)) = some (sp_fi (fun t => decide (sp_od n (nt_sw (nt_adj n a) (2 * t)) = 0)) (2 ^ (n - 1)), nI (fb_ct (fun t => decide (sp_od n (nt_sw (nt_adj n a) (2 * t)) = 0)) (2 ^ (n - 1)))) := by
  have hp := nt_pow2 (show 1 ≤ n by omega)
  have hh := nt_half hn
  have hG := nt_adj_G n a
  refine ml_for (fun i => (nI (2 * i), sp_fi (fun t => decide (sp_od n (nt_sw (nt_adj n a) (2 * t)) = 0)) i, nI (fb_ct (fun t => decide (sp_od n (nt_sw (nt_adj n a) (2 * t)) = 0)) i))) (2 ^ (n - 1)) (by omega) rfl (fun i hi => ?_) ?_
  · show B_X6_even_27 (nI k) st (nI (2 * i)) (sp_fi (fun t => decide (sp_od n (nt_sw (nt_adj n a) (2 * t)) = 0)) i) (nI (fb_ct (fun t => decide (sp_od n (nt_sw (nt_adj n a) (2 * t)) = 0)) i)) = _
    have hlt := nt_enc_lt hn (nt_sw (nt_adj n a) (2 * i))
    have hod : M_X6_oddNodes (nI (nt_enc n (nt_sw (nt_adj n a) (2 * i)))) st = some (nI (sp_od n (nt_sw (nt_adj n a) (2 * i)))) := by
      rw [nt_mOddNodes hn hs]
      congr 2
      unfold sp_od
      apply nt_mk_congr
      intro p hpn
      have e : sp_dg n (nt_adj n (nt_enc n (nt_sw (nt_adj n a) (2 * i)))) p = sp_dg n (nt_sw (nt_adj n a) (2 * i)) p := fb_ct_cong (fun q hq => by
        by_cases e : p = q
        · subst e
          rw [nt_adj_irr, (nt_sw_G hG (2 * i)).2]
        · exact nt_adj_enc hn (nt_sw_G hG (2 * i)).1 hpn hq e)
      rw [e]
    unfold B_X6_even_27
    rw [nt_many hs, ml_b, nt_sh1 n (by omega), if_neg (nI_ge (by omega) (by omega)), ml_b, nt_netOf hk, ml_b, hs2, nt_switched hn ha (by omega), ml_b, hod, ml_b]
    have hl := nt_mk_128 hn (fun p => decide (sp_dg n (nt_sw (nt_adj n a) (2 * i)) p % 2 = 1))
    by_cases e : sp_od n (nt_sw (nt_adj n a) (2 * i)) = 0
    · rw [e, if_pos nI_0, nt_find (P := fun t => decide (sp_od n (nt_sw (nt_adj n a) (2 * t)) = 0)) (by omega) (by simp [e]), ml_b, ml_let, nt_add2]
    · have e2 := nt_nofind (P := fun t => decide (sp_od n (nt_sw (nt_adj n a) (2 * t)) = 0)) (i := i) (by simp [e])
      rw [if_neg (fun z => e ((nI_eq (a := sp_od n (nt_sw (nt_adj n a) (2 * i))) (b := 0) (by unfold sp_od; omega) (by decide)).mp (by rw [z, nI_0]))), ml_let, nt_add2, e2.1, e2.2]
  · show B_X6_even_27 (nI k) st (nI (2 * 2 ^ (n - 1))) _ _ = _
    unfold B_X6_even_27
    rw [nt_many hs, ml_b, nt_sh1 n (by omega), ← hp, if_pos (nI_le (Nat.le_refl _) (by omega))]
