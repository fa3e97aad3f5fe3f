/-! ===== nets renumbered ===== -/
def pm_ren (A : Nat → Nat → Bool) (l : List Nat) : Nat → Nat → Bool := fun u v => A (l.idxOf u) (l.idxOf v)
def pm_arr (A : Nat → Nat → Bool) (m : List Nat) : Nat → Nat → Bool := fun i j => A (pa m i) (pa m j)
theorem pm_ren_G {A : Nat → Nat → Bool} (h : nt_G A) (l : List Nat) : nt_G (pm_ren A l) := ⟨fun _ _ => h.1 _ _, fun _ => h.2 _⟩
theorem pm_arr_G {A : Nat → Nat → Bool} (h : nt_G A) (l : List Nat) : nt_G (pm_arr A l) := ⟨fun _ _ => h.1 _ _, fun _ => h.2 _⟩
theorem pm_ren_arr {n : Nat} (A : Nat → Nat → Bool) (l : List Nat) : nt_E n (pm_ren A l) (pm_arr A (pm_v n l)) := fun u v hu hv => by
  unfold pm_ren pm_arr
  rw [pm_v_at hu, pm_v_at hv]
def pm_al (n : Nat) (A : Nat → Nat → Bool) (p : Nat) : Nat → Nat → Bool := nt_sw A (nt_mk n (A p))
theorem pm_al_G {n : Nat} {A : Nat → Nat → Bool} (h : nt_G A) (p : Nat) : nt_G (pm_al n A p) := nt_sw_G h _
theorem pm_al_at {n : Nat} {A : Nat → Nat → Bool} {p u v : Nat} (hu : u < n) (hv : v < n) : pm_al n A p u v = (A u v ^^ (A p u ^^ A p v)) := by
  unfold pm_al nt_sw
  rw [nt_mk_bit, nt_mk_bit]
  simp [hu, hv]
theorem pm_al_E {n : Nat} {A B : Nat → Nat → Bool} (h : nt_E n A B) {p : Nat} (hp : p < n) : nt_E n (pm_al n A p) (pm_al n B p) := fun u v hu hv => by
  rw [pm_al_at hu hv, pm_al_at hu hv, h u v hu hv, h p u hp hu, h p v hp hv]
/-- what is left when a node stands alone does not depend on the net of the class of nets that one begins with -/
theorem pm_al_sw {n : Nat} {A : Nat → Nat → Bool} (s : Nat) {p : Nat} (hp : p < n) : nt_E n (pm_al n (nt_sw A s) p) (pm_al n A p) := fun u v hu hv => by
  rw [pm_al_at hu hv, pm_al_at hu hv]
  unfold nt_sw
  cases A u v <;> cases A p u <;> cases A p v <;> cases s.testBit u <;> cases s.testBit v <;> cases s.testBit p <;> rfl
theorem pm_al_al {n : Nat} {A : Nat → Nat → Bool} {p q : Nat} (hq : q < n) : nt_E n (pm_al n (pm_al n A p) q) (pm_al n A q) := pm_al_sw _ hq
theorem pm_al_arr {n : Nat} {A : Nat → Nat → Bool} {m : List Nat} (h : pm_P n m) {p : Nat} (hp : p < n) : nt_E n (pm_al n (pm_arr A m) p) (pm_arr (pm_al n A (pa m p)) m) := fun u v hu hv => by
  rw [pm_al_at hu hv]
  unfold pm_arr
  rw [pm_al_at (pm_lt h hu) (pm_lt h hv)]
theorem pm_arr_E {n : Nat} {A B : Nat → Nat → Bool} (h : nt_E n A B) {m : List Nat} (hm : pm_P n m) : nt_E n (pm_arr A m) (pm_arr B m) := fun u v hu hv => h _ _ (pm_lt hm hu) (pm_lt hm hv)
theorem pm_arr_arr {n : Nat} {A : Nat → Nat → Bool} {s m : List Nat} : nt_E n (pm_arr (pm_arr A s) m) (pm_arr A (pm_c n s m)) := fun u v hu hv => by
  unfold pm_arr
  rw [pm_c_at hu, pm_c_at hv]
theorem nt_valueOf_mm {n p q : Nat} (hn : n < 8) (hp : p < n) (hq : q < n) (hne : p ≠ q) : M_X6_valueOf (nI n) (nI p) (nI q) = some (nI (2 ^ (nt_np n - 1 - nt_ix n (min p q) (max p q)))) := nt_valueOf n hn p hp q hq hne
theorem pm_swap {n : Nat} {l : List Nat} (h : pm_P n l) {i j u v : Nat} (hij : i < j) (hj : j < n) (hu : u < v) (hv : v < n) : (u = min (pa l i) (pa l j) ∧ v = max (pa l i) (pa l j)) ↔ (min (l.idxOf u) (l.idxOf v) = i ∧ max (l.idxOf u) (l.idxOf v) = j) := by
  have hi : i < n := by omega
  have hun : u < n := by omega
  have e1 := pm_idx_at h hi
  have e2 := pm_idx_at h hj
  have e3 := pm_at_idx h hun
  have e4 := pm_at_idx h hv
  constructor
  · rintro ⟨h1, h2⟩
    rcases Nat.le_total (pa l i) (pa l j) with h3 | h3
    · rw [Nat.min_eq_left h3] at h1
      rw [Nat.max_eq_right h3] at h2
      rw [h1, h2, e1, e2]
      omega
    · rw [Nat.min_eq_right h3] at h1
      rw [Nat.max_eq_left h3] at h2
      rw [h1, h2, e1, e2]
      omega
  · rintro ⟨h1, h2⟩
    rcases Nat.le_total (l.idxOf u) (l.idxOf v) with h3 | h3
    · rw [Nat.min_eq_left h3] at h1
      rw [Nat.max_eq_right h3] at h2
      rw [h1] at e3
      rw [h2] at e4
      rw [e3, e4]
      omega
    · rw [Nat.min_eq_right h3] at h1
      rw [Nat.max_eq_left h3] at h2
      rw [h1] at e4
      rw [h2] at e3
      rw [e3, e4]
      omega
theorem nt_renumbered {n a : Nat} {l : List Nat} {row : Nat → Int32} (hn : n < 8) (h : pm_P n l) (hrow : ∀ p, p < n → row p = nI (pa l p)) : M_X6_renumbered (nI n) (nI a) row = some (nI (nt_enc n (pm_ren (nt_adj n a) l))) := by
  have inner : ∀ i, i < n → ∀ x, x < 2 ^ nt_np n → (∀ u v, u < v → v < n → nt_adj n x u v = (nt_pr i (i + 1) (min (l.idxOf u) (l.idxOf v)) (max (l.idxOf u) (l.idxOf v)) && nt_adj n a (l.idxOf u) (l.idxOf v))) → ∃ r, on_loop (fun (z : Int32 × Int32) => B_X6_renumbered_17 (nI n) (nI a) (nI i) row z.1 z.2) on_F (nI x, nI (i + 1)) = some r ∧ ∃ y, r = nI y ∧ y < 2 ^ nt_np n ∧ ∀ u v, u < v → v < n → nt_adj n y u v = (nt_pr (i + 1) (i + 1 + 1) (min (l.idxOf u) (l.idxOf v)) (max (l.idxOf u) (l.idxOf v)) && nt_adj n a (l.idxOf u) (l.idxOf v)) := by
    intro i hi x hx hr
    refine ml_invF (fun k z => ∃ y, z = (nI y, nI (i + 1 + k)) ∧ y < 2 ^ nt_np n ∧ ∀ u v, u < v → v < n → nt_adj n y u v = (nt_pr i (i + 1 + k) (min (l.idxOf u) (l.idxOf v)) (max (l.idxOf u) (l.idxOf v)) && nt_adj n a (l.idxOf u) (l.idxOf v))) _ (n - (i + 1)) (by omega) (fun k z hk hz => ?_) (fun z hz => ?_) ⟨x, rfl, hx, hr⟩
    · obtain ⟨y, rfl, hy, hr⟩ := hz
      left
      have hj : i + 1 + k < n := by omega
      have hsame : ∀ u v, u < v → v < n → (min (l.idxOf u) (l.idxOf v) = i ∧ max (l.idxOf u) (l.idxOf v) = i + 1 + k) → nt_adj n a (l.idxOf u) (l.idxOf v) = nt_adj n a i (i + 1 + k) := by
        intro u v _ _ he
        rcases Nat.le_total (l.idxOf u) (l.idxOf v) with h3 | h3
        · rw [Nat.min_eq_left h3, Nat.max_eq_right h3] at he
          rw [he.1, he.2]
        · rw [Nat.min_eq_right h3, Nat.max_eq_left h3] at he
          rw [he.1, he.2, nt_adj_symm]
      cases hb : nt_adj n a i (i + 1 + k) with
      | false =>
        refine ⟨(nI y, nI (i + 1 + (k + 1))), ?_, y, rfl, hy, fun u v hu hv => ?_⟩
        · show B_X6_renumbered_17 (nI n) (nI a) (nI i) row (nI y) (nI (i + 1 + k)) = _
          unfold B_X6_renumbered_17
          rw [if_neg (nI_ge hj (by omega)), nt_mjoined hn hi hj, ml_b, hb, if_neg (by decide), ml_let, ml_let, nI_1, nt_n0, fa_or, Nat.or_zero]
          rfl
        · rw [hr u v hu hv, show i + 1 + (k + 1) = (i + 1 + k) + 1 by omega, nt_pr_step]
          by_cases e : min (l.idxOf u) (l.idxOf v) = i ∧ max (l.idxOf u) (l.idxOf v) = i + 1 + k
          · rw [hsame u v hu hv e, hb, Bool.and_false, Bool.and_false]
          · have : (decide (min (l.idxOf u) (l.idxOf v) = i) && decide (max (l.idxOf u) (l.idxOf v) = i + 1 + k)) = false := by
              by_cases e1 : min (l.idxOf u) (l.idxOf v) = i
              · simp [show ¬ max (l.idxOf u) (l.idxOf v) = i + 1 + k from fun z => e ⟨e1, z⟩]
              · simp [e1]
            rw [this, Bool.or_false]
      | true =>
        have hne : pa l i ≠ pa l (i + 1 + k) := fun e => by have := pm_inj h hi hj e; omega
        have q1 := pm_lt h hi
        have q2 := pm_lt h hj
        obtain ⟨f1, f2⟩ := nt_orb hn hy (show min (pa l i) (pa l (i + 1 + k)) < max (pa l i) (pa l (i + 1 + k)) by omega) (show max (pa l i) (pa l (i + 1 + k)) < n by omega)
        refine ⟨(nI (y ||| 2 ^ (nt_np n - 1 - nt_ix n (min (pa l i) (pa l (i + 1 + k))) (max (pa l i) (pa l (i + 1 + k))))), nI (i + 1 + (k + 1))), ?_, _, rfl, f1, fun u v hu hv => ?_⟩
        · show B_X6_renumbered_17 (nI n) (nI a) (nI i) row (nI y) (nI (i + 1 + k)) = _
          unfold B_X6_renumbered_17
          rw [if_neg (nI_ge hj (by omega)), nt_mjoined hn hi hj, ml_b, hb, if_pos nt_i1, ml_gi (by omega) (by omega), ml_gi (by omega) (by omega), nI_clamp (by omega), nI_clamp (by omega), hrow i hi, hrow _ hj, nt_valueOf_mm hn q1 q2 hne, ml_b, ml_let, ml_let, nI_1, fa_or]
          rfl
        · rw [f2 u v hu hv, hr u v hu hv, show i + 1 + (k + 1) = (i + 1 + k) + 1 by omega, nt_pr_step]
          by_cases e : min (l.idxOf u) (l.idxOf v) = i ∧ max (l.idxOf u) (l.idxOf v) = i + 1 + k
          · have e2 := (pm_swap h (show i < i + 1 + k by omega) hj hu hv).mpr e
            rw [hsame u v hu hv e, hb, decide_eq_true e2.1, decide_eq_true e2.2, decide_eq_true e.1, decide_eq_true e.2]
            simp
          · have hx1 : (decide (min (l.idxOf u) (l.idxOf v) = i) && decide (max (l.idxOf u) (l.idxOf v) = i + 1 + k)) = false := by
              by_cases e1 : min (l.idxOf u) (l.idxOf v) = i
              · simp [show ¬ max (l.idxOf u) (l.idxOf v) = i + 1 + k from fun z => e ⟨e1, z⟩]
              · simp [e1]
            have hx2 : (decide (u = min (pa l i) (pa l (i + 1 + k))) && decide (v = max (pa l i) (pa l (i + 1 + k)))) = false := by
              by_cases e1 : u = min (pa l i) (pa l (i + 1 + k))
              · have : ¬ v = max (pa l i) (pa l (i + 1 + k)) := fun z => e ((pm_swap h (show i < i + 1 + k by omega) hj hu hv).mp ⟨e1, z⟩)
                simp [this]
              · simp [e1]
            rw [hx1, hx2, Bool.or_false, Bool.or_false]
    · obtain ⟨y, rfl, hy, hr⟩ := hz
      rw [show i + 1 + (n - (i + 1)) = n by omega] at hr
      refine ⟨nI y, ?_, y, rfl, hy, fun u v hu hv => ?_⟩
      · show B_X6_renumbered_17 (nI n) (nI a) (nI i) row (nI y) (nI (i + 1 + (n - (i + 1)))) = _
        rw [show i + 1 + (n - (i + 1)) = n by omega]
        unfold B_X6_renumbered_17
        rw [if_pos (nI_le (Nat.le_refl n) (by omega))]
      · have b1 := pm_idx_lt h (show u < n by omega)
        have b2 := pm_idx_lt h hv
        have b3 : l.idxOf u ≠ l.idxOf v := fun e => by
          have e3 := pm_at_idx h (show u < n by omega)
          rw [e, pm_at_idx h hv] at e3
          omega
        rw [hr u v hu hv, nt_pr_row (n := n) (by omega) (by omega)]
  have outer : ∃ r, on_loop (fun (z : Int32 × Int32) => B_X6_renumbered_5 (nI n) (nI a) row z.1 z.2) on_F ((0 : Int32), (0 : Int32)) = some r ∧ r = nI (nt_enc n (pm_ren (nt_adj n a) l)) := by
    refine ml_invF (fun i z => ∃ y, z = (nI y, nI i) ∧ y < 2 ^ nt_np n ∧ ∀ u v, u < v → v < n → nt_adj n y u v = (nt_pr i (i + 1) (min (l.idxOf u) (l.idxOf v)) (max (l.idxOf u) (l.idxOf v)) && nt_adj n a (l.idxOf u) (l.idxOf v))) _ n (by omega) (fun i z hi hz => ?_) (fun z hz => ?_) ⟨0, rfl, Nat.two_pow_pos _, fun u v hu hv => ?_⟩
    · obtain ⟨y, rfl, hy, hr⟩ := hz
      left
      obtain ⟨r, h1, y2, rfl, hy2, hr2⟩ := inner i hi y hy hr
      refine ⟨(nI y2, nI (i + 1)), ?_, y2, rfl, hy2, hr2⟩
      show B_X6_renumbered_5 (nI n) (nI a) row (nI y) (nI i) = _
      unfold B_X6_renumbered_5
      rw [if_neg (nI_ge hi (by omega)), ml_let, nI_1, h1, ml_b, ml_let]
    · obtain ⟨y, rfl, hy, hr⟩ := hz
      refine ⟨nI y, ?_, ?_⟩
      · show B_X6_renumbered_5 (nI n) (nI a) row (nI y) (nI n) = _
        unfold B_X6_renumbered_5
        rw [if_pos (nI_le (Nat.le_refl n) (by omega))]
      · rw [nt_num_enc (B := pm_ren (nt_adj n a) l) hn hy (fun u v hu hv => by
          have b1 := pm_idx_lt h (show u < n by omega)
          have b2 := pm_idx_lt h hv
          rw [hr u v hu hv, nt_pr_n (by omega)]
          rfl)]
    · have b3 : l.idxOf u ≠ l.idxOf v := fun e => by
        have e3 := pm_at_idx h (show u < n by omega)
        rw [e, pm_at_idx h hv] at e3
        omega
      rw [nt_pr_0 (by omega), nt_adj_lt hu, Nat.zero_testBit]
      rfl
  obtain ⟨r, h1, rfl⟩ := outer
  unfold M_X6_renumbered
  exact ml_bb h1 rfl
theorem nt_alone_E {n a p : Nat} {B : Nat → Nat → Bool} (hn : n < 8) (ha : a < 2 ^ nt_np n) (hp : p < n) (hE : nt_E n (nt_adj n a) B) : M_X6_alone (nI n) (nI a) (nI p) = some (nI (nt_enc n (pm_al n B p))) := by
  rw [nt_alone hn ha hp]
  exact congrArg (fun x => some (nI x)) (pm_al_E hE hp).enc
/-! ===== by how many renumberings a net comes to another ===== -/
def pm_cn (n : Nat) (A : Nat → Nat → Bool) (b : Nat) : Nat := pm_n n (fun l => decide (nt_enc n (pm_ren A l) = b))
def pm_cc (n : Nat) (A B : Nat → Nat → Bool) : Nat := pm_n n (fun l => decide (nt_enc n (pm_al n (pm_ren A l) 0) = nt_enc n (pm_al n B 0)))
theorem nt_comesTo {n a b : Nat} (hn : n < 8) (hn3 : 3 ≤ n) (hb : b < 2 ^ nt_np n) (row used : Nat → Int32) : ∃ row' used', M_X6_comesTo (nI n) (nI a) (nI b) 0 row used = some (nI (pm_cn n (nt_adj n a) b), row', used') := by
  have hf := pm_f_le n hn
  have hb2 := nt_num_lt hn hb
  have loop : ∃ r, on_loop (fun (s : Int32 × Int32 × (Nat → Int32) × (Nat → Int32)) => B_X6_comesTo_23 (nI n) (nI a) 0 (nI b) s.1 s.2.1 s.2.2.1 s.2.2.2) on_F ((0 : Int32), (0 : Int32), row, used) = some r ∧ r.1 = nI (pm_cn n (nt_adj n a) b) := by
    refine ml_invF (fun i s => ∃ rw us, s = (nI (fb_ct (fun r => decide (nt_enc n (pm_ren (nt_adj n a) (pr n r)) = b)) i), nI i, rw, us)) _ (pm_f n) (by omega) (fun i s hi hs => ?_) (fun s hs => ?_) ⟨row, used, rfl⟩
    · obtain ⟨rw1, us1, rfl⟩ := hs
      left
      obtain ⟨rw2, us2, h1, h2⟩ := nt_layRank (r := i) hn (by omega) rw1 us1
      have hre := nt_renumbered (a := a) hn (pr_P hn hn3 hi) h2
      have hx := nt_num_lt hn (nt_enc_lt hn (pm_ren (nt_adj n a) (pr n i)))
      refine ⟨(nI (fb_ct (fun r => decide (nt_enc n (pm_ren (nt_adj n a) (pr n r)) = b)) (i + 1)), nI (i + 1), rw2, us2), ?_, rw2, us2, rfl⟩
      show B_X6_comesTo_23 (nI n) (nI a) 0 (nI b) (nI (fb_ct (fun r => decide (nt_enc n (pm_ren (nt_adj n a) (pr n r)) = b)) i)) (nI i) rw1 us1 = _
      rw [fb_ct_succ]
      generalize fb_ct (fun r => decide (nt_enc n (pm_ren (nt_adj n a) (pr n r)) = b)) i = c
      unfold B_X6_comesTo_23
      rw [nt_orders n hn (by omega), ml_b, if_neg (nI_ge hi (by omega)), h1, ml_b]
      show (M_X6_renumbered (nI n) (nI a) rw2).bind _ = _
      rw [hre, ml_b, if_pos rfl]
      by_cases e : nt_enc n (pm_ren (nt_adj n a) (pr n i)) = b
      · rw [if_pos (by rw [e]), ml_let, ml_let, nI_1, nI_1]
        simp [e]
      · rw [if_neg (fun z => e ((nI_eq (by omega) (by omega)).mp z)), ml_let, ml_let, nI_1, Int32.add_zero]
        simp [e]
    · obtain ⟨rw1, us1, rfl⟩ := hs
      refine ⟨(nI (fb_ct (fun r => decide (nt_enc n (pm_ren (nt_adj n a) (pr n r)) = b)) (pm_f n)), rw1, us1), ?_, ?_⟩
      · show B_X6_comesTo_23 (nI n) (nI a) 0 (nI b) (nI (fb_ct (fun r => decide (nt_enc n (pm_ren (nt_adj n a) (pr n r)) = b)) (pm_f n))) (nI (pm_f n)) rw1 us1 = _
        unfold B_X6_comesTo_23
        rw [nt_orders n hn (by omega), ml_b, if_pos (nI_le (Nat.le_refl _) (by omega))]
      · show nI _ = nI _
        rw [pr_n hn hn3 (fun l => decide (nt_enc n (pm_ren (nt_adj n a) l) = b))]
        rfl
  obtain ⟨⟨r1, r2, r3⟩, h1, h2⟩ := loop
  refine ⟨r2, r3, ?_⟩
  unfold M_X6_comesTo
  rw [if_pos rfl, h1, ml_b]
  have h2 : r1 = _ := h2
  rw [h2]
theorem nt_comesToC {n a b : Nat} (hn : n < 8) (hn3 : 3 ≤ n) (hb : b < 2 ^ nt_np n) (row used : Nat → Int32) : ∃ row' used', M_X6_comesTo (nI n) (nI a) (nI b) 1 row used = some (nI (pm_cc n (nt_adj n a) (nt_adj n b)), row', used') := by
  have hf := pm_f_le n hn
  have hal : M_X6_alone (nI n) (nI b) (0 : Int32) = some (nI (nt_enc n (pm_al n (nt_adj n b) 0))) := nt_alone_E (p := 0) hn hb (by omega) (fun _ _ _ _ => rfl)
  have hd := nt_num_lt hn (nt_enc_lt hn (pm_al n (nt_adj n b) 0))
  have loop : ∃ r, on_loop (fun (s : Int32 × Int32 × (Nat → Int32) × (Nat → Int32)) => B_X6_comesTo_23 (nI n) (nI a) 1 (nI (nt_enc n (pm_al n (nt_adj n b) 0))) s.1 s.2.1 s.2.2.1 s.2.2.2) on_F ((0 : Int32), (0 : Int32), row, used) = some r ∧ r.1 = nI (pm_cc n (nt_adj n a) (nt_adj n b)) := by
    refine ml_invF (fun i s => ∃ rw us, s = (nI (fb_ct (fun r => decide (nt_enc n (pm_al n (pm_ren (nt_adj n a) (pr n r)) 0) = nt_enc n (pm_al n (nt_adj n b) 0))) i), nI i, rw, us)) _ (pm_f n) (by omega) (fun i s hi hs => ?_) (fun s hs => ?_) ⟨row, used, rfl⟩
    · obtain ⟨rw1, us1, rfl⟩ := hs
      left
      obtain ⟨rw2, us2, h1, h2⟩ := nt_layRank (r := i) hn (by omega) rw1 us1
      have hre := nt_renumbered (a := a) hn (pr_P hn hn3 hi) h2
      have hxl := nt_enc_lt hn (pm_ren (nt_adj n a) (pr n i))
      have hal2 : M_X6_alone (nI n) (nI (nt_enc n (pm_ren (nt_adj n a) (pr n i)))) (0 : Int32) = some (nI (nt_enc n (pm_al n (pm_ren (nt_adj n a) (pr n i)) 0))) := nt_alone_E (p := 0) hn hxl (by omega) (nt_E_enc hn (pm_ren_G (nt_adj_G n a) _))
      have hx := nt_num_lt hn (nt_enc_lt hn (pm_al n (pm_ren (nt_adj n a) (pr n i)) 0))
      refine ⟨(nI (fb_ct (fun r => decide (nt_enc n (pm_al n (pm_ren (nt_adj n a) (pr n r)) 0) = nt_enc n (pm_al n (nt_adj n b) 0))) (i + 1)), nI (i + 1), rw2, us2), ?_, rw2, us2, rfl⟩
      show B_X6_comesTo_23 (nI n) (nI a) 1 (nI (nt_enc n (pm_al n (nt_adj n b) 0))) (nI (fb_ct (fun r => decide (nt_enc n (pm_al n (pm_ren (nt_adj n a) (pr n r)) 0) = nt_enc n (pm_al n (nt_adj n b) 0))) i)) (nI i) rw1 us1 = _
      rw [fb_ct_succ]
      generalize fb_ct (fun r => decide (nt_enc n (pm_al n (pm_ren (nt_adj n a) (pr n r)) 0) = nt_enc n (pm_al n (nt_adj n b) 0))) i = c
      unfold B_X6_comesTo_23
      rw [nt_orders n hn (by omega), ml_b, if_neg (nI_ge hi (by omega)), h1, ml_b]
      show (M_X6_renumbered (nI n) (nI a) rw2).bind _ = _
      rw [hre, ml_b, if_neg (by decide), hal2, ml_b]
      by_cases e : nt_enc n (pm_al n (pm_ren (nt_adj n a) (pr n i)) 0) = nt_enc n (pm_al n (nt_adj n b) 0)
      · rw [if_pos (by rw [e]), ml_let, ml_let, nI_1, nI_1]
        simp [e]
      · rw [if_neg (fun z => e ((nI_eq (by omega) (by omega)).mp z)), ml_let, ml_let, nI_1, Int32.add_zero]
        simp [e]
    · obtain ⟨rw1, us1, rfl⟩ := hs
      refine ⟨(nI (fb_ct (fun r => decide (nt_enc n (pm_al n (pm_ren (nt_adj n a) (pr n r)) 0) = nt_enc n (pm_al n (nt_adj n b) 0))) (pm_f n)), rw1, us1), ?_, ?_⟩
      · show B_X6_comesTo_23 (nI n) (nI a) 1 (nI (nt_enc n (pm_al n (nt_adj n b) 0))) (nI (fb_ct (fun r => decide (nt_enc n (pm_al n (pm_ren (nt_adj n a) (pr n r)) 0) = nt_enc n (pm_al n (nt_adj n b) 0))) (pm_f n))) (nI (pm_f n)) rw1 us1 = _
        unfold B_X6_comesTo_23
        rw [nt_orders n hn (by omega), ml_b, if_pos (nI_le (Nat.le_refl _) (by omega))]
      · show nI _ = nI _
        rw [pr_n hn hn3 (fun l => decide (nt_enc n (pm_al n (pm_ren (nt_adj n a) l) 0) = nt_enc n (pm_al n (nt_adj n b) 0)))]
        rfl
  obtain ⟨⟨r1, r2, r3⟩, h1, h2⟩ := loop
  refine ⟨r2, r3, ?_⟩
  unfold M_X6_comesTo
  rw [if_neg (by decide), hal, ml_b, h1, ml_b]
  have h2 : r1 = _ := h2
  rw [h2]
