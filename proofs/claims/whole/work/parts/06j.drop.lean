/-! ===== without a node ===== -/
def nt_up (v p : Nat) : Nat := if p < v then p else p + 1
def nt_dn (v p : Nat) : Nat := if p < v then p else p - 1
def nt_wo (A : Nat → Nat → Bool) (v : Nat) : Nat → Nat → Bool := fun p q => A (nt_up v p) (nt_up v q)
theorem nt_up_ne (v p : Nat) : nt_up v p ≠ v := by
  unfold nt_up
  split <;> omega
theorem nt_up_lt {n v p : Nat} (hp : p < n - 1) : nt_up v p < n := by
  unfold nt_up
  split <;> omega
theorem nt_up_mono {v p q : Nat} (h : p < q) : nt_up v p < nt_up v q := by
  unfold nt_up
  split <;> split <;> omega
theorem nt_up_inj {v p q : Nat} (h : nt_up v p = nt_up v q) : p = q := by
  unfold nt_up at h
  split at h <;> split at h <;> omega
theorem nt_up_dn {v p : Nat} (h : p ≠ v) : nt_up v (nt_dn v p) = p := by
  unfold nt_up nt_dn
  by_cases h1 : p < v
  · simp [h1]
  · have : ¬ p - 1 < v := by omega
    simp [h1, this]
    omega
theorem nt_dn_mono {v p q : Nat} (hp : p ≠ v) (hq : q ≠ v) (h : p < q) : nt_dn v p < nt_dn v q := by
  unfold nt_dn
  split <;> split <;> omega
theorem nt_dn_lt {n v p : Nat} (hv : v < n) (hp : p ≠ v) (h : p < n) : nt_dn v p < n - 1 := by
  unfold nt_dn
  split <;> omega
theorem nt_wo_G {A : Nat → Nat → Bool} (h : nt_G A) (v : Nat) : nt_G (nt_wo A v) := ⟨fun p q => h.1 _ _, fun p => h.2 _⟩
theorem nt_dropw : ∀ x, x < 128 → ∀ v, v < 7 → (nI x &&& nI (2 ^ v - 1)) ||| ((nI x >>> ((1 : Int32) &&& 31)) &&& (nI (2 ^ v - 1) ^^^ (-1 : Int32))) = nI ((x &&& (2 ^ v - 1)) ||| ((x >>> 1) &&& (127 ^^^ (2 ^ v - 1)))) := by decide +kernel
theorem nt_sub1 {n : Nat} (h : 1 ≤ n) : nI n - (1 : Int32) = nI (n - 1) := by
  obtain ⟨m, rfl⟩ : ∃ m, n = m + 1 := ⟨n - 1, by omega⟩
  rw [nI_pred]
  rfl
theorem nt_drop {n v : Nat} {A : Nat → Nat → Bool} {rows : Nat → Int32} (hn : n < 8) (hv : v < n) (h : nt_Rep n A rows) : ∃ rows', M_X0_drop (nI v) (nI n) rows = some (nI (n - 1), rows') ∧ nt_Rep (n - 1) (nt_wo A v) rows' := by
  let g : Nat → Nat → Int32 := fun i j => if v ≤ j ∧ j < v + i then rows (j + 1) else rows j
  have hg : ∀ k, k < n - 1 → g (n - 1 - v) k = rows (nt_up v k) := by
    intro k hk
    show (if v ≤ k ∧ k < v + (n - 1 - v) then rows (k + 1) else rows k) = _
    unfold nt_up
    by_cases h1 : k < v
    · rw [if_neg (by omega), if_pos h1]
    · rw [if_pos (by omega), if_neg h1]
  have l1 : on_loop (fun (s : Int32 × (Nat → Int32)) => B_X0_drop_8 (nI n) s.1 s.2) on_F (nI v, rows) = some (g (n - 1 - v)) := by
    refine ml_for (fun i => (nI (v + i), g i)) (n - 1 - v) (by omega) ?_ (fun i hi => ?_) ?_
    · show (nI v, rows) = (nI v, g 0)
      congr 1
      funext j
      show _ = if v ≤ j ∧ j < v + 0 then rows (j + 1) else rows j
      rw [if_neg (by omega)]
    · show B_X0_drop_8 (nI n) (nI (v + i)) (g i) = _
      unfold B_X0_drop_8
      rw [nt_sub1 (by omega), if_neg (nI_ge (by omega) (by omega)), nI_1, ml_gi (by omega) (by omega), ml_gi (by omega) (by omega), ml_let, nI_clamp (by omega), nI_clamp (by omega)]
      have e : upd (g i) (v + i) (g i (v + i + 1)) = g (i + 1) := by
        funext j
        show (if j = v + i then g i (v + i + 1) else g i j) = _
        by_cases e : j = v + i
        · subst e
          rw [if_pos rfl]
          show (if v ≤ v + i + 1 ∧ v + i + 1 < v + i then rows (v + i + 1 + 1) else rows (v + i + 1)) = (if v ≤ v + i ∧ v + i < v + (i + 1) then rows (v + i + 1) else rows (v + i))
          rw [if_neg (by omega), if_pos (by omega)]
        · rw [if_neg e]
          show (if v ≤ j ∧ j < v + i then rows (j + 1) else rows j) = (if v ≤ j ∧ j < v + (i + 1) then rows (j + 1) else rows j)
          by_cases h1 : v ≤ j ∧ j < v + i
          · rw [if_pos h1, if_pos (by omega)]
          · rw [if_neg h1, if_neg (by omega)]
      rw [e]
      rfl
    · show B_X0_drop_8 (nI n) (nI (v + (n - 1 - v))) (g (n - 1 - v)) = _
      unfold B_X0_drop_8
      rw [nt_sub1 (by omega), show v + (n - 1 - v) = n - 1 by omega, if_pos (nI_le (Nat.le_refl _) (by omega))]
  let w : Nat → Int32 := fun k => (g (n - 1 - v) k &&& nI (2 ^ v - 1)) ||| ((g (n - 1 - v) k >>> ((1 : Int32) &&& 31)) &&& (nI (2 ^ v - 1) ^^^ (-1 : Int32)))
  have l2 : on_loop (fun (s : Int32 × (Nat → Int32)) => B_X0_drop_50 (nI (2 ^ v - 1)) (nI (n - 1)) s.1 s.2) on_F ((0 : Int32), g (n - 1 - v)) = some (fa_fill w (g (n - 1 - v)) (n - 1)) := by
    refine ml_for (fun i => (nI i, fa_fill w (g (n - 1 - v)) i)) (n - 1) (by omega) (by rw [nI_0, fa_fill_0]) (fun i hi => ?_) ?_
    · show B_X0_drop_50 (nI (2 ^ v - 1)) (nI (n - 1)) (nI i) (fa_fill w (g (n - 1 - v)) i) = _
      unfold B_X0_drop_50
      rw [if_neg (nI_ge hi (by omega)), ml_gi (by omega) (by omega), ml_gi (by omega) (by omega), ml_gi (by omega) (by omega), ml_let, nI_1, nI_clamp (by omega), fa_fill_out (Nat.le_refl i)]
      have e := fa_fill_succ w (g (n - 1 - v)) i
      rw [← e]
    · show B_X0_drop_50 (nI (2 ^ v - 1)) (nI (n - 1)) (nI (n - 1)) (fa_fill w (g (n - 1 - v)) (n - 1)) = _
      unfold B_X0_drop_50
      rw [if_pos (nI_le (Nat.le_refl _) (by omega))]
  refine ⟨fa_fill w (g (n - 1 - v)) (n - 1), ?_, ?_⟩
  · unfold M_X0_drop
    rw [ml_let, nt_all v (by omega), l1, ml_b, ml_let, nt_sub1 (by omega), l2, ml_b]
  · intro k hk
    rw [fa_fill_in hk]
    show (g (n - 1 - v) k &&& nI (2 ^ v - 1)) ||| ((g (n - 1 - v) k >>> ((1 : Int32) &&& 31)) &&& (nI (2 ^ v - 1) ^^^ (-1 : Int32))) = _
    rw [hg k hk, h _ (nt_up_lt hk), nt_dropw _ (nt_mk_128 hn _) v (by omega)]
    congr 1
    apply Nat.eq_of_testBit_eq
    intro j
    rw [Nat.testBit_or, Nat.testBit_and, Nat.testBit_and, Nat.testBit_two_pow_sub_one, Nat.testBit_xor, Nat.testBit_two_pow_sub_one, nt_127, Nat.testBit_shiftRight, nt_mk_bit, nt_mk_bit, nt_mk_bit]
    unfold nt_wo
    by_cases h1 : j < v
    · have e : nt_up v j = j := by unfold nt_up; rw [if_pos h1]
      rw [e]
      simp [h1, show j < n by omega, show j < 7 by omega, show j < n - 1 by omega]
    · have e : nt_up v j = 1 + j := by unfold nt_up; rw [if_neg h1]; omega
      rw [e]
      by_cases h2 : j < n - 1
      · simp [h1, h2, show 1 + j < n by omega, show j < 7 by omega]
      · simp [h1, h2, show ¬ 1 + j < n by omega]
theorem nt_mWithout {n a v : Nat} (hn : n < 8) (hv : v < n) : M_X6_without (nI n) (nI a) (nI v) = some (nI (nt_enc (n - 1) (nt_wo (nt_adj n a) v))) := by
  have hn1 : n - 1 < 8 := by omega
  have inner : ∀ i, i < n → ∀ x, x < 2 ^ nt_np (n - 1) → (∀ p q, p < q → q < n - 1 → nt_adj (n - 1) x p q = (nt_pr i (i + 1) (nt_up v p) (nt_up v q) && nt_adj n a (nt_up v p) (nt_up v q))) → ∃ r, on_loop (fun (z : Int32 × Int32) => B_X6_without_17 (nI n) (nI a) (nI v) (nI i) z.1 z.2) on_F (nI x, nI (i + 1)) = some r ∧ ∃ y, r = nI y ∧ y < 2 ^ nt_np (n - 1) ∧ ∀ p q, p < q → q < n - 1 → nt_adj (n - 1) y p q = (nt_pr (i + 1) (i + 1 + 1) (nt_up v p) (nt_up v q) && nt_adj n a (nt_up v p) (nt_up v q)) := by
    intro i hi x hx hr
    refine ml_invF (fun k z => ∃ y, z = (nI y, nI (i + 1 + k)) ∧ y < 2 ^ nt_np (n - 1) ∧ ∀ p q, p < q → q < n - 1 → nt_adj (n - 1) y p q = (nt_pr i (i + 1 + k) (nt_up v p) (nt_up v q) && nt_adj n a (nt_up v p) (nt_up v q))) _ (n - (i + 1)) (by omega) (fun k z hk hz => ?_) (fun z hz => ?_) ⟨x, rfl, hx, hr⟩
    · obtain ⟨y, rfl, hy, hr⟩ := hz
      left
      have hj : i + 1 + k < n := by omega
      have keep : (i = v ∨ i + 1 + k = v ∨ nt_adj n a i (i + 1 + k) = false) → ∀ p q, p < q → q < n - 1 → nt_adj (n - 1) y p q = (nt_pr i (i + 1 + (k + 1)) (nt_up v p) (nt_up v q) && nt_adj n a (nt_up v p) (nt_up v q)) := by
        intro hc p q hp hq
        rw [hr p q hp hq, show i + 1 + (k + 1) = (i + 1 + k) + 1 by omega, nt_pr_step]
        by_cases e : nt_up v p = i ∧ nt_up v q = i + 1 + k
        · rcases hc with hc | hc | hc
          · exact absurd (e.1.trans hc) (nt_up_ne v p)
          · exact absurd (e.2.trans hc) (nt_up_ne v q)
          · rw [e.1, e.2, hc, Bool.and_false, Bool.and_false]
        · have : (decide (nt_up v p = i) && decide (nt_up v q = i + 1 + k)) = false := by
            by_cases e1 : nt_up v p = i
            · simp [e1, show ¬ nt_up v q = i + 1 + k from fun z => e ⟨e1, z⟩]
            · simp [e1]
          rw [this, Bool.or_false]
      by_cases c1 : i = v
      · refine ⟨(nI y, nI (i + 1 + (k + 1))), ?_, y, rfl, hy, keep (Or.inl c1)⟩
        show B_X6_without_17 (nI n) (nI a) (nI v) (nI i) (nI y) (nI (i + 1 + k)) = _
        unfold B_X6_without_17
        rw [if_neg (nI_ge hj (by omega)), if_pos (by rw [c1]), ml_let, nI_1]
        rfl
      · by_cases c2 : i + 1 + k = v
        · refine ⟨(nI y, nI (i + 1 + (k + 1))), ?_, y, rfl, hy, keep (Or.inr (Or.inl c2))⟩
          show B_X6_without_17 (nI n) (nI a) (nI v) (nI i) (nI y) (nI (i + 1 + k)) = _
          unfold B_X6_without_17
          rw [if_neg (nI_ge hj (by omega)), if_neg (fun z => c1 ((nI_eq (by omega) (by omega)).mp z)), if_pos (by rw [c2]), ml_let, nI_1]
          rfl
        · cases hb : nt_adj n a i (i + 1 + k) with
          | false =>
            refine ⟨(nI y, nI (i + 1 + (k + 1))), ?_, y, rfl, hy, keep (Or.inr (Or.inr hb))⟩
            show B_X6_without_17 (nI n) (nI a) (nI v) (nI i) (nI y) (nI (i + 1 + k)) = _
            unfold B_X6_without_17
            rw [if_neg (nI_ge hj (by omega)), if_neg (fun z => c1 ((nI_eq (by omega) (by omega)).mp z)), if_neg (fun z => c2 ((nI_eq (by omega) (by omega)).mp z)), nt_mjoined hn hi hj, ml_b, hb, if_neg (by decide), ml_let, nI_1]
            rfl
          | true =>
            have d1 := nt_dn_mono c1 c2 (show i < i + 1 + k by omega)
            have d2 := nt_dn_lt hv c2 hj
            obtain ⟨f1, f2⟩ := nt_orb hn1 hy d1 d2
            refine ⟨(nI (y ||| 2 ^ (nt_np (n - 1) - 1 - nt_ix (n - 1) (nt_dn v i) (nt_dn v (i + 1 + k)))), nI (i + 1 + (k + 1))), ?_, _, rfl, f1, fun p q hp hq => ?_⟩
            · show B_X6_without_17 (nI n) (nI a) (nI v) (nI i) (nI y) (nI (i + 1 + k)) = _
              unfold B_X6_without_17
              rw [if_neg (nI_ge hj (by omega)), if_neg (fun z => c1 ((nI_eq (by omega) (by omega)).mp z)), if_neg (fun z => c2 ((nI_eq (by omega) (by omega)).mp z)), nt_mjoined hn hi hj, ml_b, hb, if_pos nt_i1, nt_sub1 (show 1 ≤ n by omega)]
              have hval := nt_valueOf_lt hn1 d1 d2
              by_cases c3 : i ≤ v
              · have e1 : nt_dn v i = i := by unfold nt_dn; rw [if_pos (by omega)]
                rw [e1] at hval ⊢
                rw [if_pos (nI_le c3 (by omega))]
                by_cases c4 : i + 1 + k ≤ v
                · have e2 : nt_dn v (i + 1 + k) = i + 1 + k := by unfold nt_dn; rw [if_pos (by omega)]
                  rw [e2] at hval ⊢
                  rw [if_pos (nI_le c4 (by omega)), hval, ml_b, ml_let, ml_let, nI_1, fa_or]
                  rfl
                · have e2 : nt_dn v (i + 1 + k) = i + 1 + k - 1 := by unfold nt_dn; rw [if_neg (by omega)]
                  rw [e2] at hval ⊢
                  rw [if_neg (nI_ge (by omega) (by omega)), nt_sub1 (show 1 ≤ i + 1 + k by omega), hval, ml_b, ml_let, ml_let, nI_1, fa_or]
                  rfl
              · have e1 : nt_dn v i = i - 1 := by unfold nt_dn; rw [if_neg (by omega)]
                have e2 : nt_dn v (i + 1 + k) = i + 1 + k - 1 := by unfold nt_dn; rw [if_neg (by omega)]
                rw [e1, e2] at hval ⊢
                rw [if_neg (nI_ge (by omega) (by omega)), if_neg (nI_ge (by omega) (by omega)), nt_sub1 (show 1 ≤ i by omega), nt_sub1 (show 1 ≤ i + 1 + k by omega), hval, ml_b, ml_let, ml_let, nI_1, fa_or]
                rfl
            · rw [f2 p q hp hq, hr p q hp hq, show i + 1 + (k + 1) = (i + 1 + k) + 1 by omega, nt_pr_step]
              by_cases e : nt_up v p = i ∧ nt_up v q = i + 1 + k
              · have e1 : p = nt_dn v i := nt_up_inj (v := v) (by rw [nt_up_dn c1]; exact e.1)
                have e2 : q = nt_dn v (i + 1 + k) := nt_up_inj (v := v) (by rw [nt_up_dn c2]; exact e.2)
                rw [e.1, e.2, hb]
                simp [e1, e2]
              · have hx1 : (decide (nt_up v p = i) && decide (nt_up v q = i + 1 + k)) = false := by
                  by_cases e1 : nt_up v p = i
                  · simp [e1, show ¬ nt_up v q = i + 1 + k from fun z => e ⟨e1, z⟩]
                  · simp [e1]
                have hx2 : (decide (p = nt_dn v i) && decide (q = nt_dn v (i + 1 + k))) = false := by
                  by_cases e1 : p = nt_dn v i
                  · have : ¬ q = nt_dn v (i + 1 + k) := fun z => e ⟨by rw [e1, nt_up_dn c1], by rw [z, nt_up_dn c2]⟩
                    simp [this]
                  · simp [e1]
                rw [hx1, hx2, Bool.or_false, Bool.or_false]
    · obtain ⟨y, rfl, hy, hr⟩ := hz
      rw [show i + 1 + (n - (i + 1)) = n by omega] at hr
      refine ⟨nI y, ?_, y, rfl, hy, fun p q hp hq => by rw [hr p q hp hq, nt_pr_row (nt_up_mono hp) (nt_up_lt hq)]⟩
      show B_X6_without_17 (nI n) (nI a) (nI v) (nI i) (nI y) (nI (i + 1 + (n - (i + 1)))) = _
      rw [show i + 1 + (n - (i + 1)) = n by omega]
      unfold B_X6_without_17
      rw [if_pos (nI_le (Nat.le_refl n) (by omega))]
  have outer : ∃ r, on_loop (fun (z : Int32 × Int32) => B_X6_without_5 (nI n) (nI a) (nI v) z.1 z.2) on_F ((0 : Int32), (0 : Int32)) = some r ∧ r = nI (nt_enc (n - 1) (nt_wo (nt_adj n a) v)) := by
    refine ml_invF (fun i z => ∃ y, z = (nI y, nI i) ∧ y < 2 ^ nt_np (n - 1) ∧ ∀ p q, p < q → q < n - 1 → nt_adj (n - 1) y p q = (nt_pr i (i + 1) (nt_up v p) (nt_up v q) && nt_adj n a (nt_up v p) (nt_up v q))) _ n (by omega) (fun i z hi hz => ?_) (fun z hz => ?_) ⟨0, rfl, Nat.two_pow_pos _, fun p q hp hq => by rw [nt_pr_0 (nt_up_mono hp), nt_adj_lt hp, Nat.zero_testBit]; rfl⟩
    · obtain ⟨y, rfl, hy, hr⟩ := hz
      left
      obtain ⟨r, h1, y2, rfl, hy2, hr2⟩ := inner i hi y hy hr
      refine ⟨(nI y2, nI (i + 1)), ?_, y2, rfl, hy2, hr2⟩
      show B_X6_without_5 (nI n) (nI a) (nI v) (nI y) (nI i) = _
      unfold B_X6_without_5
      rw [if_neg (nI_ge hi (by omega)), ml_let, nI_1, h1, ml_b, ml_let]
    · obtain ⟨y, rfl, hy, hr⟩ := hz
      refine ⟨nI y, ?_, ?_⟩
      · show B_X6_without_5 (nI n) (nI a) (nI v) (nI y) (nI n) = _
        unfold B_X6_without_5
        rw [if_pos (nI_le (Nat.le_refl n) (by omega))]
      · rw [nt_num_enc (B := nt_wo (nt_adj n a) v) hn1 hy (fun p q hp hq => by rw [hr p q hp hq, nt_pr_n (nt_up_lt (by omega))]; rfl)]
  obtain ⟨r, h1, rfl⟩ := outer
  unfold M_X6_without
  exact ml_bb h1 rfl
