/-! ===== how many pairs: half the sum of the degrees ===== -/
def nt_cn : List Bool → Nat
  | [] => 0
  | b :: t => b.toNat + nt_cn t
theorem nt_cn_app : ∀ a b : List Bool, nt_cn (a ++ b) = nt_cn a + nt_cn b
  | [], b => by simp [nt_cn]
  | x :: t, b => by
    show x.toNat + nt_cn (t ++ b) = x.toNat + nt_cn t + nt_cn b
    rw [nt_cn_app t b]
    omega
theorem nt_cn_rev : ∀ l : List Bool, nt_cn l.reverse = nt_cn l
  | [] => rfl
  | x :: t => by
    rw [List.reverse_cons, nt_cn_app, nt_cn_rev t]
    show nt_cn t + (x.toNat + 0) = x.toNat + nt_cn t
    omega
theorem nt_ct_getD : ∀ (l : List Bool) (m : Nat), l.length ≤ m → fb_ct (fun j => l.getD j false) m = nt_cn l
  | [], m, _ => by
    have h := (fb_ct_zero (p := fun j => ([] : List Bool).getD j false) (n := m)).mpr (fun k _ => by simp)
    rw [h]
    rfl
  | b :: t, m, h => by
    have h1 : t.length + 1 ≤ m := h
    obtain ⟨m', rfl⟩ : ∃ m', m = 1 + m' := ⟨m - 1, by omega⟩
    have e : fb_ct (fun k => (b :: t).getD (1 + k) false) m' = fb_ct (fun j => t.getD j false) m' := fb_ct_cong (fun k _ => by
      show (b :: t).getD (1 + k) false = _
      rw [Nat.add_comm 1 k]
      rfl)
    rw [fb_ct_split, e, nt_ct_getD t m' (by omega)]
    cases b <;> rfl
theorem nt_ct_enc {n : Nat} (hn : n < 8) (A : Nat → Nat → Bool) : fb_ct (fun j => (nt_enc n A).testBit j) 21 = nt_cn ((nt_PL n).map fun x => A x.1 x.2) := by
  unfold nt_enc nt_eL
  rw [fb_ct_cong (q := fun j => (((nt_PL n).map fun x => A x.1 x.2).reverse).getD j false) (fun j _ => nt_eR_bit _ j), nt_ct_getD _ 21 (by rw [List.length_reverse, List.length_map, nt_PLlen n hn]; have := nt_np_lt n hn; omega), nt_cn_rev]
theorem nt_ifb (b : Bool) : (if b = true then 1 else 0) = b.toNat := by cases b <;> rfl
theorem nt_hand0 {A : Nat → Nat → Bool} (h : nt_G A) : fb_sm (sp_dg 0 A) 0 = 2 * nt_cn ((nt_PL 0).map fun x => A x.1 x.2) := by
  show 0 = 2 * 0
  rfl
theorem nt_hand1 {A : Nat → Nat → Bool} (h : nt_G A) : fb_sm (sp_dg 1 A) 1 = 2 * nt_cn ((nt_PL 1).map fun x => A x.1 x.2) := by
  show 0 + (0 + (if A 0 0 = true then 1 else 0)) = 2 * 0
  simp only [h.2 0, nt_ifb, Bool.toNat_false]
theorem nt_hand2 {A : Nat → Nat → Bool} (h : nt_G A) : fb_sm (sp_dg 2 A) 2 = 2 * nt_cn ((nt_PL 2).map fun x => A x.1 x.2) := by
  show 0 + (0 + (if A 0 0 = true then 1 else 0) + (if A 0 1 = true then 1 else 0)) + (0 + (if A 1 0 = true then 1 else 0) + (if A 1 1 = true then 1 else 0)) = 2 * ((A 0 1).toNat + 0)
  simp only [h.1 1 0, h.2 0, h.2 1, nt_ifb, Bool.toNat_false]
  omega
theorem nt_hand3 {A : Nat → Nat → Bool} (h : nt_G A) : fb_sm (sp_dg 3 A) 3 = 2 * nt_cn ((nt_PL 3).map fun x => A x.1 x.2) := by
  show 0 + (0 + (if A 0 0 = true then 1 else 0) + (if A 0 1 = true then 1 else 0) + (if A 0 2 = true then 1 else 0)) + (0 + (if A 1 0 = true then 1 else 0) + (if A 1 1 = true then 1 else 0) + (if A 1 2 = true then 1 else 0)) + (0 + (if A 2 0 = true then 1 else 0) + (if A 2 1 = true then 1 else 0) + (if A 2 2 = true then 1 else 0)) = 2 * ((A 0 1).toNat + ((A 0 2).toNat + ((A 1 2).toNat + 0)))
  simp only [h.1 1 0, h.1 2 0, h.1 2 1, h.2 0, h.2 1, h.2 2, nt_ifb, Bool.toNat_false]
  omega
theorem nt_hand4 {A : Nat → Nat → Bool} (h : nt_G A) : fb_sm (sp_dg 4 A) 4 = 2 * nt_cn ((nt_PL 4).map fun x => A x.1 x.2) := by
  show 0 + (0 + (if A 0 0 = true then 1 else 0) + (if A 0 1 = true then 1 else 0) + (if A 0 2 = true then 1 else 0) + (if A 0 3 = true then 1 else 0)) + (0 + (if A 1 0 = true then 1 else 0) + (if A 1 1 = true then 1 else 0) + (if A 1 2 = true then 1 else 0) + (if A 1 3 = true then 1 else 0)) + (0 + (if A 2 0 = true then 1 else 0) + (if A 2 1 = true then 1 else 0) + (if A 2 2 = true then 1 else 0) + (if A 2 3 = true then 1 else 0)) + (0 + (if A 3 0 = true then 1 else 0) + (if A 3 1 = true then 1 else 0) + (if A 3 2 = true then 1 else 0) + (if A 3 3 = true then 1 else 0)) = 2 * ((A 0 1).toNat + ((A 0 2).toNat + ((A 0 3).toNat + ((A 1 2).toNat + ((A 1 3).toNat + ((A 2 3).toNat + 0))))))
  simp only [h.1 1 0, h.1 2 0, h.1 3 0, h.1 2 1, h.1 3 1, h.1 3 2, h.2 0, h.2 1, h.2 2, h.2 3, nt_ifb, Bool.toNat_false]
  omega
theorem nt_hand5 {A : Nat → Nat → Bool} (h : nt_G A) : fb_sm (sp_dg 5 A) 5 = 2 * nt_cn ((nt_PL 5).map fun x => A x.1 x.2) := by
  show 0 + (0 + (if A 0 0 = true then 1 else 0) + (if A 0 1 = true then 1 else 0) + (if A 0 2 = true then 1 else 0) + (if A 0 3 = true then 1 else 0) + (if A 0 4 = true then 1 else 0)) + (0 + (if A 1 0 = true then 1 else 0) + (if A 1 1 = true then 1 else 0) + (if A 1 2 = true then 1 else 0) + (if A 1 3 = true then 1 else 0) + (if A 1 4 = true then 1 else 0)) + (0 + (if A 2 0 = true then 1 else 0) + (if A 2 1 = true then 1 else 0) + (if A 2 2 = true then 1 else 0) + (if A 2 3 = true then 1 else 0) + (if A 2 4 = true then 1 else 0)) + (0 + (if A 3 0 = true then 1 else 0) + (if A 3 1 = true then 1 else 0) + (if A 3 2 = true then 1 else 0) + (if A 3 3 = true then 1 else 0) + (if A 3 4 = true then 1 else 0)) + (0 + (if A 4 0 = true then 1 else 0) + (if A 4 1 = true then 1 else 0) + (if A 4 2 = true then 1 else 0) + (if A 4 3 = true then 1 else 0) + (if A 4 4 = true then 1 else 0)) = 2 * ((A 0 1).toNat + ((A 0 2).toNat + ((A 0 3).toNat + ((A 0 4).toNat + ((A 1 2).toNat + ((A 1 3).toNat + ((A 1 4).toNat + ((A 2 3).toNat + ((A 2 4).toNat + ((A 3 4).toNat + 0))))))))))
  simp only [h.1 1 0, h.1 2 0, h.1 3 0, h.1 4 0, h.1 2 1, h.1 3 1, h.1 4 1, h.1 3 2, h.1 4 2, h.1 4 3, h.2 0, h.2 1, h.2 2, h.2 3, h.2 4, nt_ifb, Bool.toNat_false]
  omega
theorem nt_hand6 {A : Nat → Nat → Bool} (h : nt_G A) : fb_sm (sp_dg 6 A) 6 = 2 * nt_cn ((nt_PL 6).map fun x => A x.1 x.2) := by
  show 0 + (0 + (if A 0 0 = true then 1 else 0) + (if A 0 1 = true then 1 else 0) + (if A 0 2 = true then 1 else 0) + (if A 0 3 = true then 1 else 0) + (if A 0 4 = true then 1 else 0) + (if A 0 5 = true then 1 else 0)) + (0 + (if A 1 0 = true then 1 else 0) + (if A 1 1 = true then 1 else 0) + (if A 1 2 = true then 1 else 0) + (if A 1 3 = true then 1 else 0) + (if A 1 4 = true then 1 else 0) + (if A 1 5 = true then 1 else 0)) + (0 + (if A 2 0 = true then 1 else 0) + (if A 2 1 = true then 1 else 0) + (if A 2 2 = true then 1 else 0) + (if A 2 3 = true then 1 else 0) + (if A 2 4 = true then 1 else 0) + (if A 2 5 = true then 1 else 0)) + (0 + (if A 3 0 = true then 1 else 0) + (if A 3 1 = true then 1 else 0) + (if A 3 2 = true then 1 else 0) + (if A 3 3 = true then 1 else 0) + (if A 3 4 = true then 1 else 0) + (if A 3 5 = true then 1 else 0)) + (0 + (if A 4 0 = true then 1 else 0) + (if A 4 1 = true then 1 else 0) + (if A 4 2 = true then 1 else 0) + (if A 4 3 = true then 1 else 0) + (if A 4 4 = true then 1 else 0) + (if A 4 5 = true then 1 else 0)) + (0 + (if A 5 0 = true then 1 else 0) + (if A 5 1 = true then 1 else 0) + (if A 5 2 = true then 1 else 0) + (if A 5 3 = true then 1 else 0) + (if A 5 4 = true then 1 else 0) + (if A 5 5 = true then 1 else 0)) = 2 * ((A 0 1).toNat + ((A 0 2).toNat + ((A 0 3).toNat + ((A 0 4).toNat + ((A 0 5).toNat + ((A 1 2).toNat + ((A 1 3).toNat + ((A 1 4).toNat + ((A 1 5).toNat + ((A 2 3).toNat + ((A 2 4).toNat + ((A 2 5).toNat + ((A 3 4).toNat + ((A 3 5).toNat + ((A 4 5).toNat + 0)))))))))))))))
  simp only [h.1 1 0, h.1 2 0, h.1 3 0, h.1 4 0, h.1 5 0, h.1 2 1, h.1 3 1, h.1 4 1, h.1 5 1, h.1 3 2, h.1 4 2, h.1 5 2, h.1 4 3, h.1 5 3, h.1 5 4, h.2 0, h.2 1, h.2 2, h.2 3, h.2 4, h.2 5, nt_ifb, Bool.toNat_false]
  omega
theorem nt_hand7 {A : Nat → Nat → Bool} (h : nt_G A) : fb_sm (sp_dg 7 A) 7 = 2 * nt_cn ((nt_PL 7).map fun x => A x.1 x.2) := by
  show 0 + (0 + (if A 0 0 = true then 1 else 0) + (if A 0 1 = true then 1 else 0) + (if A 0 2 = true then 1 else 0) + (if A 0 3 = true then 1 else 0) + (if A 0 4 = true then 1 else 0) + (if A 0 5 = true then 1 else 0) + (if A 0 6 = true then 1 else 0)) + (0 + (if A 1 0 = true then 1 else 0) + (if A 1 1 = true then 1 else 0) + (if A 1 2 = true then 1 else 0) + (if A 1 3 = true then 1 else 0) + (if A 1 4 = true then 1 else 0) + (if A 1 5 = true then 1 else 0) + (if A 1 6 = true then 1 else 0)) + (0 + (if A 2 0 = true then 1 else 0) + (if A 2 1 = true then 1 else 0) + (if A 2 2 = true then 1 else 0) + (if A 2 3 = true then 1 else 0) + (if A 2 4 = true then 1 else 0) + (if A 2 5 = true then 1 else 0) + (if A 2 6 = true then 1 else 0)) + (0 + (if A 3 0 = true then 1 else 0) + (if A 3 1 = true then 1 else 0) + (if A 3 2 = true then 1 else 0) + (if A 3 3 = true then 1 else 0) + (if A 3 4 = true then 1 else 0) + (if A 3 5 = true then 1 else 0) + (if A 3 6 = true then 1 else 0)) + (0 + (if A 4 0 = true then 1 else 0) + (if A 4 1 = true then 1 else 0) + (if A 4 2 = true then 1 else 0) + (if A 4 3 = true then 1 else 0) + (if A 4 4 = true then 1 else 0) + (if A 4 5 = true then 1 else 0) + (if A 4 6 = true then 1 else 0)) + (0 + (if A 5 0 = true then 1 else 0) + (if A 5 1 = true then 1 else 0) + (if A 5 2 = true then 1 else 0) + (if A 5 3 = true then 1 else 0) + (if A 5 4 = true then 1 else 0) + (if A 5 5 = true then 1 else 0) + (if A 5 6 = true then 1 else 0)) + (0 + (if A 6 0 = true then 1 else 0) + (if A 6 1 = true then 1 else 0) + (if A 6 2 = true then 1 else 0) + (if A 6 3 = true then 1 else 0) + (if A 6 4 = true then 1 else 0) + (if A 6 5 = true then 1 else 0) + (if A 6 6 = true then 1 else 0)) = 2 * ((A 0 1).toNat + ((A 0 2).toNat + ((A 0 3).toNat + ((A 0 4).toNat + ((A 0 5).toNat + ((A 0 6).toNat + ((A 1 2).toNat + ((A 1 3).toNat + ((A 1 4).toNat + ((A 1 5).toNat + ((A 1 6).toNat + ((A 2 3).toNat + ((A 2 4).toNat + ((A 2 5).toNat + ((A 2 6).toNat + ((A 3 4).toNat + ((A 3 5).toNat + ((A 3 6).toNat + ((A 4 5).toNat + ((A 4 6).toNat + ((A 5 6).toNat + 0)))))))))))))))))))))
  simp only [h.1 1 0, h.1 2 0, h.1 3 0, h.1 4 0, h.1 5 0, h.1 6 0, h.1 2 1, h.1 3 1, h.1 4 1, h.1 5 1, h.1 6 1, h.1 3 2, h.1 4 2, h.1 5 2, h.1 6 2, h.1 4 3, h.1 5 3, h.1 6 3, h.1 5 4, h.1 6 4, h.1 6 5, h.2 0, h.2 1, h.2 2, h.2 3, h.2 4, h.2 5, h.2 6, nt_ifb, Bool.toNat_false]
  omega
theorem nt_hand {n : Nat} (hn : n < 8) {A : Nat → Nat → Bool} (h : nt_G A) : fb_sm (sp_dg n A) n = 2 * nt_cn ((nt_PL n).map fun x => A x.1 x.2) := by
  match n, hn with
  | 0, _ => exact nt_hand0 h
  | 1, _ => exact nt_hand1 h
  | 2, _ => exact nt_hand2 h
  | 3, _ => exact nt_hand3 h
  | 4, _ => exact nt_hand4 h
  | 5, _ => exact nt_hand5 h
  | 6, _ => exact nt_hand6 h
  | 7, _ => exact nt_hand7 h
def sp_jp (n : Nat) (A : Nat → Nat → Bool) : Nat := fb_sm (sp_dg n A) n / 2
theorem sp_dgs_le {n m : Nat} (hn : n < 8) (A : Nat → Nat → Bool) (hm : m ≤ n) : fb_sm (sp_dg n A) m < 50 := by
  have h := fb_sm_bound (f := sp_dg n A) (c := 7) (n := m) (fun k _ => by have := fb_ct_le (A k) n; show fb_ct (A k) n ≤ 7; omega)
  omega
theorem nt_joinedPairs {n : Nat} {A : Nat → Nat → Bool} {rows : Nat → Int32} (hn : n < 8) (h : nt_Rep n A rows) : M_X0_joinedPairs (nI n) rows = some (nI (sp_jp n A)) := by
  unfold M_X0_joinedPairs
  refine ml_bb (r := nI (fb_sm (sp_dg n A) n)) (ml_for (fun i => (nI (fb_sm (sp_dg n A) i), nI i)) n (by omega) rfl (fun i hi => ?_) ?_) ?_
  · show B_X0_joinedPairs_4 (nI n) rows (nI (fb_sm (sp_dg n A) i)) (nI i) = _
    unfold B_X0_joinedPairs_4
    rw [if_neg (nI_ge hi (by omega)), nt_degree hn h hi, ml_b, ml_let, ml_let, nI_1, nI_add, fb_sm_succ]
    rfl
  · show B_X0_joinedPairs_4 (nI n) rows (nI (fb_sm (sp_dg n A) n)) (nI n) = _
    unfold B_X0_joinedPairs_4
    rw [if_pos (nI_le (Nat.le_refl n) (by omega))]
  · have := sp_dgs_le hn A (Nat.le_refl n)
    show some (nI _ / (2 : Int32)) = _
    rw [nt_n2, pk_div (by omega) (by decide) (by decide)]
    rfl
theorem nt_size_enc {n : Nat} (hn : n < 8) {A : Nat → Nat → Bool} (h : nt_G A) : M_X6_size (nI (nt_enc n A)) = some (nI (sp_jp n A)) := by
  have hl := nt_num_lt hn (nt_enc_lt hn A)
  rw [nt_size (by omega), nt_ct_enc hn]
  unfold sp_jp
  rw [nt_hand hn h, Nat.mul_div_cancel_left _ (by decide)]
theorem nt_size_num {n a : Nat} (hn : n < 8) (ha : a < 2 ^ nt_np n) : M_X6_size (nI a) = some (nI (sp_jp n (nt_adj n a))) := by
  have h := nt_size_enc hn (nt_adj_G n a)
  rw [nt_enc_adj hn ha] at h
  exact h
/-! ===== all nodes ===== -/
def nt_allb (f : Nat → Bool) : Nat → Bool
  | 0 => true
  | n + 1 => nt_allb f n && f n
theorem nt_allb_f {f : Nat → Bool} {i : Nat} (hi : f i = false) : ∀ {n : Nat}, i < n → nt_allb f n = false
  | 0, h => absurd h (Nat.not_lt_zero i)
  | n + 1, h => by
    show (nt_allb f n && f n) = false
    rcases Nat.lt_or_ge i n with q | q
    · rw [nt_allb_f hi q]
      rfl
    · have e : i = n := by omega
      subst e
      rw [hi, Bool.and_false]
def sp_by (n : Nat) (A : Nat → Nat → Bool) (k : Nat) : Bool := nt_allb (fun p => decide (sp_dg n A p = k)) n
theorem nt_eachDegree {n k : Nat} {A : Nat → Nat → Bool} {rows : Nat → Int32} (hn : n < 8) (hk : k < 8) (h : nt_Rep n A rows) : M_X0_eachDegreeIs (nI k) (nI n) rows = some (nt_i (sp_by n A k)) := by
  have loop : ∃ r, on_loop (fun (s : Int32) => B_X0_eachDegreeIs_20 (nI k) (nI n) rows s) on_F (0 : Int32) = some r ∧ ((r = Sum.inr () ∧ sp_by n A k = true) ∨ (r = Sum.inl 0 ∧ sp_by n A k = false)) := by
    refine ml_invF (fun i s => s = nI i ∧ nt_allb (fun p => decide (sp_dg n A p = k)) i = true) _ n (by omega) (fun i s hi hs => ?_) (fun s hs => ?_) ⟨rfl, rfl⟩
    · obtain ⟨rfl, ha⟩ := hs
      by_cases e : sp_dg n A i = k
      · left
        refine ⟨nI (i + 1), ?_, rfl, by show (nt_allb _ i && _) = true; rw [ha]; simp [e]⟩
        unfold B_X0_eachDegreeIs_20
        rw [if_neg (nI_ge hi (by omega)), nt_degree hn h hi, ml_b, if_pos (by rw [← e]; rfl), ml_let, nI_1]
      · right
        refine ⟨Sum.inl 0, ?_, Or.inr ⟨rfl, nt_allb_f (i := i) (by simp [e]) hi⟩⟩
        have hd := fb_ct_le (A i) n
        have e : ¬ fb_ct (A i) n = k := e
        unfold B_X0_eachDegreeIs_20
        rw [if_neg (nI_ge hi (by omega)), nt_degree hn h hi, ml_b, if_neg (fun z => e ((nI_eq (by omega) (by omega)).mp z))]
    · obtain ⟨rfl, ha⟩ := hs
      refine ⟨Sum.inr (), ?_, Or.inl ⟨rfl, ha⟩⟩
      unfold B_X0_eachDegreeIs_20
      rw [if_pos (nI_le (Nat.le_refl n) (by omega))]
  obtain ⟨r, h1, h2⟩ := loop
  unfold M_X0_eachDegreeIs
  have hne : ¬ nI k = (-1 : Int32) := by
    have : ∀ k, k < 8 → ¬ nI k = (-1 : Int32) := by decide +kernel
    exact this k hk
  rw [if_neg hne, h1, ml_b]
  rcases h2 with ⟨rfl, h3⟩ | ⟨rfl, h3⟩
  · rw [h3]
    rfl
  · rw [h3]
    rfl
theorem nt_eachEven {n : Nat} {A : Nat → Nat → Bool} {rows : Nat → Int32} (hn : n < 8) (h : nt_Rep n A rows) : M_X0_eachDegreeIs (-1) (nI n) rows = some (nt_i (decide (sp_od n A = 0))) := by
  unfold M_X0_eachDegreeIs
  rw [if_pos rfl, nt_oddDegrees hn h, ml_b]
  have hl := nt_mk_128 hn (fun p => decide (sp_dg n A p % 2 = 1))
  by_cases e : sp_od n A = 0
  · rw [e, if_pos nI_0]
    rfl
  · rw [if_neg (fun z => e ((nI_eq (a := sp_od n A) (b := 0) (by show sp_od n A < 2 ^ 31; unfold sp_od; omega) (by decide)).mp (by rw [z, nI_0]))), decide_eq_false e]
    rfl
theorem nt_mIsBy {n a k : Nat} {st : Nat → Int32} (hn : n < 8) (hk : k < 8) (hs : st 0 = nI n) : M_X6_isBy (nI a) (nI k) st = some (nt_i (sp_by n (nt_adj n a) k)) := by
  unfold M_X6_isBy
  refine ml_bb (r := nt_i (sp_by n (nt_adj n a) k)) (ml_for (fun i => (nt_i (nt_allb (fun p => decide (sp_dg n (nt_adj n a) p = k)) i), nI i)) n (by omega) rfl (fun i hi => ?_) ?_) (by show on_gd (on_isb (nt_i _)) (some _) = _; rw [ml_gd (nt_isb _)])
  · show B_X6_isBy_5 (nI a) (nI k) st (nt_i (nt_allb (fun p => decide (sp_dg n (nt_adj n a) p = k)) i)) (nI i) = _
    unfold B_X6_isBy_5
    have hd := fb_ct_le (nt_adj n a i) n
    rw [nt_many hs, ml_b, if_neg (nI_ge hi (by omega)), ml_b, nt_mdegree hn hi, ml_b]
    show _ = some (Sum.inl (nt_i (nt_allb (fun p => decide (sp_dg n (nt_adj n a) p = k)) i && decide (sp_dg n (nt_adj n a) i = k)), nI (i + 1)))
    cases nt_allb (fun p => decide (sp_dg n (nt_adj n a) p = k)) i with
    | false => rw [if_pos nt_i0, ml_let, nI_1]; rfl
    | true =>
      rw [if_neg (by decide)]
      by_cases e : sp_dg n (nt_adj n a) i = k
      · rw [if_pos (by rw [← e]; rfl), ml_let, nI_1, decide_eq_true e]
        rfl
      · have e2 : ¬ fb_ct (nt_adj n a i) n = k := e
        rw [if_neg (fun z => e2 ((nI_eq (by omega) (by omega)).mp z)), ml_let, nI_1, decide_eq_false e]
        rfl
  · show B_X6_isBy_5 (nI a) (nI k) st (nt_i (nt_allb (fun p => decide (sp_dg n (nt_adj n a) p = k)) n)) (nI n) = _
    unfold B_X6_isBy_5
    rw [nt_many hs, ml_b, if_pos (nI_le (Nat.le_refl n) (by omega))]
    rfl
