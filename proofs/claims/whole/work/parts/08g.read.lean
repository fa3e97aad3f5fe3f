/-! ===== reading the pad as triples ===== -/
theorem nt_isOdd {n p q r : Nat} {A : Nat → Nat → Bool} {rows : Nat → Int32} (hn : n < 8) (h : nt_Rep n A rows) (hp : p < n) (hq : q < n) (hr : r < n) : M_X0_isOdd (nI p) (nI q) (nI r) rows = some (nt_i (A p q ^^ (A p r ^^ A q r))) := by
  unfold M_X0_isOdd
  rw [nt_joined hn h hp hq, ml_b, nt_joined hn h hp hr, ml_b, nt_joined hn h hq hr, ml_b]
  cases A p q <;> cases A p r <;> cases A q r <;> rfl
theorem nt_takeTriples {n : Nat} {rows signs : Nat → Int32} (hn : n < 8) (hn3 : 3 ≤ n) (h : nt_Rep n (nt_pt (nt_tB n (dg signs)) 0 1) rows) : ∃ b rows', M_X0_takeTriples (nI n) rows (nI (nt_n3f n)) signs = some (nt_i b, rows') ∧ (b = true ↔ nt_ok n (dg signs)) ∧ (b = true → nt_Rep n (nt_tB n (dg signs)) rows') := by
  have h35 : nt_n3f n ≤ 35 := by have := (nt_tri n hn).2; omega
  have hG := nt_tB_G n (dg signs)
  -- node 0
  have in0 : ∀ q, 0 < q → q < n → ∀ rows, nt_Rep n (nt_pt (nt_tB n (dg signs)) q (q + 1)) rows → ∃ r, on_loop (fun (s : Int32 × Int32 × (Nat → Int32)) => B_X0_takeTriples_32 (0 : Int32) (nI q) (nI n) (nI (nt_n3f n)) signs s.1 s.2.1 s.2.2) on_F (nI (px n 0 q (q + 1)), nI (q + 1), rows) = some r ∧ ∃ rows', r = Sum.inr (nI (px n 0 (q + 1) (q + 2)), rows') ∧ nt_Rep n (nt_pt (nt_tB n (dg signs)) (q + 1) (q + 1 + 1)) rows' := by
    intro q hq0 hq rows hr
    refine ml_invF (fun k s => ∃ rows, s = (nI (px n 0 q (q + 1 + k)), nI (q + 1 + k), rows) ∧ nt_Rep n (nt_pt (nt_tB n (dg signs)) q (q + 1 + k)) rows) _ (n - (q + 1)) (by omega) (fun k s hk hs => ?_) (fun s hs => ?_) ⟨rows, rfl, hr⟩
    · obtain ⟨rw1, rfl, hr⟩ := hs
      left
      have hpx := pxL n hn (q + 1 + k) (by omega) q (by omega) 0 hq0
      have e := nt_tB_lt (n := n) (d := dg signs) hq0 (show q < q + 1 + k by omega)
      obtain ⟨rw2, h1, h2⟩ := nt_connect hn hr hq (show q + 1 + k < n by omega) (by omega) (nt_tB n (dg signs) q (q + 1 + k))
      rw [e] at h1
      refine ⟨(nI (px n 0 q (q + 1 + (k + 1))), nI (q + 1 + (k + 1)), rw2), ?_, rw2, rfl, h2.congr (fun p q _ _ => nt_pt_step hG (by omega) p q)⟩
      show B_X0_takeTriples_32 0 (nI q) (nI n) (nI (nt_n3f n)) signs (nI (px n 0 q (q + 1 + k))) (nI (q + 1 + k)) rw1 = _
      unfold B_X0_takeTriples_32
      rw [if_neg (nI_ge (show q + 1 + k < n by omega) (by omega)), nt_tells h35 hpx, ml_b, if_pos rfl, h1, ml_b, ml_let, ml_let, nI_1, nI_1, ← pxS (by omega)]
      rfl
    · obtain ⟨rw1, rfl, hr⟩ := hs
      rw [show q + 1 + (n - (q + 1)) = n by omega] at hr
      refine ⟨Sum.inr (nI (px n 0 q n), rw1), ?_, rw1, by rw [pxQ n hn q hq 0 hq0], hr.congr (fun p q hp hq => nt_pt_row hG p q hp hq)⟩
      show B_X0_takeTriples_32 0 (nI q) (nI n) (nI (nt_n3f n)) signs (nI (px n 0 q (q + 1 + (n - (q + 1))))) (nI (q + 1 + (n - (q + 1)))) rw1 = _
      rw [show q + 1 + (n - (q + 1)) = n by omega]
      unfold B_X0_takeTriples_32
      rw [if_pos (nI_le (Nat.le_refl n) (by omega))]
  have mid0 : ∃ r, on_loop (fun (s : Int32 × Int32 × (Nat → Int32)) => B_X0_takeTriples_17 (0 : Int32) (nI n) (nI (nt_n3f n)) signs s.1 s.2.1 s.2.2) on_F ((0 : Int32), nI 1, rows) = some r ∧ ∃ rows', r = Sum.inr (nI (px n 1 2 3), rows') ∧ nt_Rep n (nt_tB n (dg signs)) rows' := by
    refine ml_invF (fun k s => ∃ rows, s = (nI (px n 0 (1 + k) (1 + k + 1)), nI (1 + k), rows) ∧ nt_Rep n (nt_pt (nt_tB n (dg signs)) (1 + k) (1 + k + 1)) rows) _ (n - 1) (by omega) (fun k s hk hs => ?_) (fun s hs => ?_) ⟨rows, by rw [px0 n hn]; rfl, h.congr (fun p q hp hq => ?_)⟩
    · obtain ⟨rw1, rfl, hr⟩ := hs
      left
      obtain ⟨_, h1, rw2, rfl, h3⟩ := in0 (1 + k) (by omega) (by omega) rw1 hr
      refine ⟨(nI (px n 0 (1 + (k + 1)) (1 + (k + 1) + 1)), nI (1 + (k + 1)), rw2), ?_, rw2, rfl, h3⟩
      show B_X0_takeTriples_17 0 (nI n) (nI (nt_n3f n)) signs (nI (px n 0 (1 + k) (1 + k + 1))) (nI (1 + k)) rw1 = _
      unfold B_X0_takeTriples_17
      rw [if_neg (nI_ge (show 1 + k < n by omega) (by omega)), ml_let, nI_1, h1]
      rfl
    · obtain ⟨rw1, rfl, hr⟩ := hs
      rw [show 1 + (n - 1) = n by omega] at hr
      refine ⟨Sum.inr (nI (px n 0 n (n + 1)), rw1), ?_, rw1, by rw [pxP n hn 0 (by omega)], hr.congr (fun p q hp hq => by unfold nt_pt; simp [show min p q < n by omega])⟩
      show B_X0_takeTriples_17 0 (nI n) (nI (nt_n3f n)) signs (nI (px n 0 (1 + (n - 1)) (1 + (n - 1) + 1))) (nI (1 + (n - 1))) rw1 = _
      rw [show 1 + (n - 1) = n by omega]
      unfold B_X0_takeTriples_17
      rw [if_pos (nI_le (Nat.le_refl n) (by omega))]
    · unfold nt_pt
      by_cases e : min p q = 0
      · have hb : nt_tB n (dg signs) p q = false := if_pos (by omega)
        rw [hb, Bool.and_false, Bool.and_false]
      · rw [decide_eq_false (show ¬ min p q < 0 by omega), decide_eq_false e, decide_eq_false (show ¬ min p q < 1 + 0 by omega)]
        by_cases e1 : p = q
        · rw [e1, hG.2, Bool.and_false, Bool.and_false]
        · rw [decide_eq_false (show ¬ max p q < 1 + 0 + 1 by omega)]
          simp
  -- other nodes
  have inP : ∀ rw1, nt_Rep n (nt_tB n (dg signs)) rw1 → ∀ p q, 0 < p → p < q → q < n → ∃ r, on_loop (fun (s : Int32 × Int32 × (Nat → Int32)) => B_X0_takeTriples_32 (nI p) (nI q) (nI n) (nI (nt_n3f n)) signs s.1 s.2.1 s.2.2) on_F (nI (px n p q (q + 1)), nI (q + 1), rw1) = some r ∧ ((r = Sum.inr (nI (px n p (q + 1) (q + 2)), rw1) ∧ ∀ k, q < k → k < n → (nt_tB n (dg signs) p q ^^ (nt_tB n (dg signs) p k ^^ nt_tB n (dg signs) q k)) = dg signs (px n p q k)) ∨ (r = Sum.inl ((0 : Int32), rw1) ∧ ¬ nt_ok n (dg signs))) := by
    intro rw1 hr p q hp0 hp hq
    refine ml_invF (fun k s => s = (nI (px n p q (q + 1 + k)), nI (q + 1 + k), rw1) ∧ ∀ j, q < j → j < q + 1 + k → (nt_tB n (dg signs) p q ^^ (nt_tB n (dg signs) p j ^^ nt_tB n (dg signs) q j)) = dg signs (px n p q j)) _ (n - (q + 1)) (by omega) (fun k s hk hs => ?_) (fun s hs => ?_) ⟨rfl, fun j h1 h2 => by omega⟩
    · obtain ⟨rfl, ho⟩ := hs
      have hpx := pxL n hn (q + 1 + k) (by omega) q (by omega) p hp
      have hodd := nt_isOdd hn hr (show p < n by omega) hq (show q + 1 + k < n by omega)
      by_cases e : (nt_tB n (dg signs) p q ^^ (nt_tB n (dg signs) p (q + 1 + k) ^^ nt_tB n (dg signs) q (q + 1 + k))) = dg signs (px n p q (q + 1 + k))
      · refine Or.inl ⟨(nI (px n p q (q + 1 + (k + 1))), nI (q + 1 + (k + 1)), rw1), ?_, rfl, fun j h1 h2 => ?_⟩
        · show B_X0_takeTriples_32 (nI p) (nI q) (nI n) (nI (nt_n3f n)) signs (nI (px n p q (q + 1 + k))) (nI (q + 1 + k)) rw1 = _
          unfold B_X0_takeTriples_32
          rw [if_neg (nI_ge (show q + 1 + k < n by omega) (by omega)), nt_tells h35 hpx, ml_b, if_neg (nI_ne0 hp0 (by omega)), hodd, ml_b, e, if_pos rfl, ml_let, ml_let, nI_1, nI_1, ← pxS (by omega)]
          rfl
        · by_cases ej : j = q + 1 + k
          · rw [ej]; exact e
          · exact ho j h1 (by omega)
      · refine Or.inr ⟨_, ?_, Or.inr ⟨rfl, fun z => e (z p q (q + 1 + k) hp0 hp (by omega) (by omega))⟩⟩
        show B_X0_takeTriples_32 (nI p) (nI q) (nI n) (nI (nt_n3f n)) signs (nI (px n p q (q + 1 + k))) (nI (q + 1 + k)) rw1 = _
        unfold B_X0_takeTriples_32
        rw [if_neg (nI_ge (show q + 1 + k < n by omega) (by omega)), nt_tells h35 hpx, ml_b, if_neg (nI_ne0 hp0 (by omega)), hodd, ml_b, if_neg (fun z => e (nt_i_inj.mp z))]
    · obtain ⟨rfl, ho⟩ := hs
      rw [show q + 1 + (n - (q + 1)) = n by omega] at ho ⊢
      refine ⟨Sum.inr (nI (px n p q n), rw1), ?_, Or.inl ⟨by rw [pxQ n hn q hq p hp], ho⟩⟩
      show B_X0_takeTriples_32 (nI p) (nI q) (nI n) (nI (nt_n3f n)) signs (nI (px n p q n)) (nI n) rw1 = _
      unfold B_X0_takeTriples_32
      rw [if_pos (nI_le (Nat.le_refl n) (by omega))]
  have midP : ∀ rw1, nt_Rep n (nt_tB n (dg signs)) rw1 → ∀ p, 0 < p → p < n → ∃ r, on_loop (fun (s : Int32 × Int32 × (Nat → Int32)) => B_X0_takeTriples_17 (nI p) (nI n) (nI (nt_n3f n)) signs s.1 s.2.1 s.2.2) on_F (nI (px n p (p + 1) (p + 2)), nI (p + 1), rw1) = some r ∧ ((r = Sum.inr (nI (px n (p + 1) (p + 2) (p + 3)), rw1) ∧ ∀ q k, p < q → q < n → q < k → k < n → (nt_tB n (dg signs) p q ^^ (nt_tB n (dg signs) p k ^^ nt_tB n (dg signs) q k)) = dg signs (px n p q k)) ∨ (r = Sum.inl ((0 : Int32), rw1) ∧ ¬ nt_ok n (dg signs))) := by
    intro rw1 hr p hp0 hp
    refine ml_invF (fun x s => s = (nI (px n p (p + 1 + x) (p + 1 + x + 1)), nI (p + 1 + x), rw1) ∧ ∀ q k, p < q → q < p + 1 + x → q < k → k < n → (nt_tB n (dg signs) p q ^^ (nt_tB n (dg signs) p k ^^ nt_tB n (dg signs) q k)) = dg signs (px n p q k)) _ (n - (p + 1)) (by omega) (fun x s hx hs => ?_) (fun s hs => ?_) ⟨rfl, fun q k h1 h2 => by omega⟩
    · obtain ⟨rfl, ho⟩ := hs
      obtain ⟨r, h1, h2⟩ := inP rw1 hr p (p + 1 + x) hp0 (by omega) (by omega)
      rcases h2 with ⟨rfl, h2⟩ | ⟨rfl, h2⟩
      · refine Or.inl ⟨(nI (px n p (p + 1 + (x + 1)) (p + 1 + (x + 1) + 1)), nI (p + 1 + (x + 1)), rw1), ?_, rfl, fun q k q1 q2 q3 q4 => ?_⟩
        · show B_X0_takeTriples_17 (nI p) (nI n) (nI (nt_n3f n)) signs (nI (px n p (p + 1 + x) (p + 1 + x + 1))) (nI (p + 1 + x)) rw1 = _
          unfold B_X0_takeTriples_17
          rw [if_neg (nI_ge (show p + 1 + x < n by omega) (by omega)), ml_let, nI_1, h1]
          rfl
        · by_cases e : q = p + 1 + x
          · rw [e] at q3 ⊢
            exact h2 k q3 q4
          · exact ho q k q1 (by omega) q3 q4
      · refine Or.inr ⟨_, ?_, Or.inr ⟨rfl, h2⟩⟩
        show B_X0_takeTriples_17 (nI p) (nI n) (nI (nt_n3f n)) signs (nI (px n p (p + 1 + x) (p + 1 + x + 1))) (nI (p + 1 + x)) rw1 = _
        unfold B_X0_takeTriples_17
        rw [if_neg (nI_ge (show p + 1 + x < n by omega) (by omega)), ml_let, nI_1, h1]
        rfl
    · obtain ⟨rfl, ho⟩ := hs
      rw [show p + 1 + (n - (p + 1)) = n by omega] at ho ⊢
      refine ⟨Sum.inr (nI (px n p n (n + 1)), rw1), ?_, Or.inl ⟨by rw [pxP n hn p hp], ho⟩⟩
      show B_X0_takeTriples_17 (nI p) (nI n) (nI (nt_n3f n)) signs (nI (px n p n (n + 1))) (nI n) rw1 = _
      unfold B_X0_takeTriples_17
      rw [if_pos (nI_le (Nat.le_refl n) (by omega))]
  have outer : ∃ r, on_loop (fun (s : Int32 × Int32 × (Nat → Int32)) => B_X0_takeTriples_4 (nI n) (nI (nt_n3f n)) signs s.1 s.2.1 s.2.2) on_F ((0 : Int32), (0 : Int32), rows) = some r ∧ ((∃ rw1, r = Sum.inr rw1 ∧ nt_Rep n (nt_tB n (dg signs)) rw1 ∧ nt_ok n (dg signs)) ∨ (∃ rw1, r = Sum.inl ((0 : Int32), rw1) ∧ ¬ nt_ok n (dg signs))) := by
    refine ml_invF (fun i s => (i = 0 ∧ s = ((0 : Int32), (0 : Int32), rows)) ∨ (0 < i ∧ ∃ rw1, s = (nI (px n i (i + 1) (i + 2)), nI i, rw1) ∧ nt_Rep n (nt_tB n (dg signs)) rw1 ∧ ∀ p q k, 0 < p → p < i → p < q → q < n → q < k → k < n → (nt_tB n (dg signs) p q ^^ (nt_tB n (dg signs) p k ^^ nt_tB n (dg signs) q k)) = dg signs (px n p q k))) _ n (by omega) (fun i s hi hs => ?_) (fun s hs => ?_) (Or.inl ⟨rfl, rfl⟩)
    · rcases hs with ⟨rfl, rfl⟩ | ⟨hi0, rw1, rfl, hr, ho⟩
      · obtain ⟨_, h1, rw2, rfl, h2⟩ := mid0
        refine Or.inl ⟨(nI (px n 1 2 3), nI 1, rw2), ?_, Or.inr ⟨by omega, rw2, rfl, h2, fun p q k p1 p2 => by omega⟩⟩
        show B_X0_takeTriples_4 (nI n) (nI (nt_n3f n)) signs 0 0 rows = _
        unfold B_X0_takeTriples_4
        rw [if_neg (show ¬ nI n ≤ 0 from nI_nle (by omega) (by omega)), ml_let]
        show (on_loop (fun (s : Int32 × Int32 × (Nat → Int32)) => B_X0_takeTriples_17 (0 : Int32) (nI n) (nI (nt_n3f n)) signs s.1 s.2.1 s.2.2) on_F ((0 : Int32), nI 1, rows)).bind _ = _
        rw [h1]
        rfl
      · obtain ⟨r, h1, h2⟩ := midP rw1 hr i hi0 hi
        rcases h2 with ⟨rfl, h2⟩ | ⟨rfl, h2⟩
        · refine Or.inl ⟨(nI (px n (i + 1) (i + 1 + 1) (i + 1 + 2)), nI (i + 1), rw1), ?_, Or.inr ⟨by omega, rw1, rfl, hr, fun p q k p1 p2 q1 q2 k1 k2 => ?_⟩⟩
          · show B_X0_takeTriples_4 (nI n) (nI (nt_n3f n)) signs (nI (px n i (i + 1) (i + 2))) (nI i) rw1 = _
            unfold B_X0_takeTriples_4
            rw [if_neg (nI_ge hi (by omega)), ml_let, nI_1, h1]
            rfl
          · by_cases e : p = i
            · rw [e] at q1 ⊢
              exact h2 q k q1 q2 k1 k2
            · exact ho p q k p1 (by omega) q1 q2 k1 k2
        · refine Or.inr ⟨_, ?_, Or.inr ⟨rw1, rfl, h2⟩⟩
          show B_X0_takeTriples_4 (nI n) (nI (nt_n3f n)) signs (nI (px n i (i + 1) (i + 2))) (nI i) rw1 = _
          unfold B_X0_takeTriples_4
          rw [if_neg (nI_ge hi (by omega)), ml_let, nI_1, h1]
          rfl
    · rcases hs with ⟨h0, _⟩ | ⟨hi0, rw1, rfl, hr, ho⟩
      · omega
      · refine ⟨Sum.inr rw1, ?_, Or.inl ⟨rw1, rfl, hr, fun p q k p1 q1 k1 k2 => ho p q k p1 (by omega) q1 (by omega) k1 k2⟩⟩
        show B_X0_takeTriples_4 (nI n) (nI (nt_n3f n)) signs (nI (px n n (n + 1) (n + 2))) (nI n) rw1 = _
        unfold B_X0_takeTriples_4
        rw [if_pos (nI_le (Nat.le_refl n) (by omega))]
  obtain ⟨r, h1, h2⟩ := outer
  unfold M_X0_takeTriples
  rw [h1, ml_b]
  rcases h2 with ⟨rw1, rfl, h2, h3⟩ | ⟨rw1, rfl, h3⟩
  · exact ⟨true, rw1, rfl, ⟨fun _ => h3, fun _ => rfl⟩, fun _ => h2⟩
  · exact ⟨false, rw1, rfl, ⟨fun z => absurd z (by decide), fun z => absurd z h3⟩, fun z => absurd z (by decide)⟩
theorem dg_congr {f g : Nat → Int32} {n : Nat} (h : ∀ i, i < n → f i = g i) {i : Nat} (hi : i < n) : dg f i = dg g i := by unfold dg; rw [h i hi]
theorem pm_dg {f g : Nat → Int32} {n : Nat} (h : ∀ i, i < n → f i = g i) : pm_e (dg f) n = pm_e (dg g) n := pm_e_cong (fun j hj => dg_congr h hj)
theorem nt_tB_dg {f g : Nat → Int32} {n : Nat} (hn : n < 8) (h : ∀ i, i < nt_n3f n → f i = g i) : nt_E n (nt_tB n (dg f)) (nt_tB n (dg g)) := fun p q hp hq => by
  unfold nt_tB
  by_cases e : p = q ∨ p = 0 ∨ q = 0
  · rw [if_pos e, if_pos e]
  · rw [if_neg e, if_neg e]
    exact dg_congr h (pxL n hn (max p q) (by omega) (min p q) (by omega) 0 (by omega))
theorem nt_ok_dg {f g : Nat → Int32} {n : Nat} (hn : n < 8) (h : ∀ i, i < nt_n3f n → f i = g i) (ho : nt_ok n (dg f)) : nt_ok n (dg g) := fun p q r h0 hp hq hr => by
  have hE := nt_tB_dg hn h
  rw [← hE p q (by omega) (by omega), ← hE p r (by omega) hr, ← hE q r (by omega) hr, ho p q r h0 hp hq hr]
  exact dg_congr h (pxL n hn r hr q hq p hp)
theorem st_read {n : Nat} {a : Nat → Nat} {mc : Int32} {nums st : Nat → Int32} (hS : iv_S n a mc nums st) {sz : Nat} {size said : Int32} {signs pad : Nat → Int32} (h : iv_P sz size said signs pad) (v1 v2 nm : Int32) (nr : Nat → Int32) : ∃ r nums' size' x1 x2 said' st', M_X5_read v1 v2 mc nums size signs nm nr = some (r, nums', size', x1, x2) ∧ M_X6_read v1 v2 said st pad = some (r, said', st') ∧ (∃ a', iv_S n a' mc nums' st') ∧ ∃ sz', iv_P sz' size' said' signs pad := by
  have hS0 := hS
  have hP0 := h
  obtain ⟨hn, hn3, rfl, hs, hk⟩ := hS
  obtain ⟨h35, rfl, rfl, hp⟩ := h
  have hP1 : iv_P 0 0 0 signs pad := ⟨Nat.zero_le _, rfl, rfl, fun i hi => absurd hi (Nat.not_lt_zero i)⟩
  unfold M_X5_read M_X6_read
  rw [iv_same]
  rcases iv_slot v1 with ⟨k, k3, rfl, e1, e2⟩ | ⟨e1, e2⟩
  · rcases iv_how v2 with ⟨how, rfl, j3⟩ | j3
    · obtain ⟨r, f1, f2, f3⟩ := nt_faults hn hs h35 hp how
      rw [e1, e2, ml_b, ml_b, if_neg iv_10, if_neg iv_10, j3, ml_b, ml_b, if_neg iv_10, if_neg iv_10, nt_signsFor hn, ml_b, f1, f2, ml_b, ml_b]
      rcases f3 with ⟨rfl, hw, hd⟩ | hno
      · rw [if_pos rfl, if_pos (by decide), nt_X0clear, ml_b]
        cases how with
        | false =>
          have hw : sz = nt_np n := hw
          have hnp := nt_np_lt n hn
          obtain ⟨rw1, t1, t2⟩ := nt_takePairs (signs := signs) hn h35 hw (nt_clear0 (nt_pB_G n (dg signs)) hn nr)
          have hno := nt_netOfPad (n := n) (signs := pad) h35 (by omega) (fun i hi => by rw [← hp i hi]; exact hd i hi)
          have he : nt_enc n (nt_pB n (dg signs)) = pm_e (dg pad) sz := by rw [nt_pB_enc hn, ← hw, pm_dg hp]
          have hlt := nt_enc_lt hn (nt_pB n (dg signs))
          rw [if_pos nt_i0, if_neg (show ¬ nt_i false = 1 by decide), if_pos nt_i0, hno, ml_b, nt_hold k3, ml_b]
          show ∃ r nums' size' x1 x2 said' st', (M_X0_takePairs (nI n) (fa_fill (fun _ => 0) nr 7) (nI sz) signs).bind _ = _ ∧ _
          rw [t1, ml_b]
          show ∃ r nums' size' x1 x2 said' st', (M_X0_number (nI n) rw1).bind _ = _ ∧ _
          rw [nt_number hn t2, ml_b, ml_gi k3 (by omega), ml_gi k3 (by omega), nI_clamp (by omega), he]
          rw [he] at hlt
          refine ⟨_, _, _, _, _, _, _, rfl, ?_, ⟨_, iv_S_put hS0 k3 hlt⟩, ⟨0, hP1⟩⟩
          rw [show upd nums k (nI (pm_e (dg pad) sz)) k = nI (pm_e (dg pad) sz) from if_pos rfl]
        | true =>
          have hw : sz = nt_n3f n := hw
          subst hw
          have hd2 : ∀ i, i < nt_n3f n → pad i = 48 ∨ pad i = 49 := fun i hi => by rw [← hp i hi]; exact hd i hi
          obtain ⟨b, rw1, t1, t2, t3⟩ := nt_takeTriples (signs := signs) hn hn3 (nt_clear0 (nt_tB_G n (dg signs)) hn nr)
          obtain ⟨c, u1, u2⟩ := nt_areFit hn hs hd2
          have hbc : b = true ↔ c = true := by
            rw [t2, u2, ← nt_ok_fit]
            exact ⟨nt_ok_dg hn hp, nt_ok_dg hn (fun i hi => (hp i hi).symm)⟩
          have hbc : b = c := by rw [Bool.eq_iff_iff]; exact hbc
          subst hbc
          have he : nt_enc n (nt_tB n (dg signs)) = nt_enc n (nt_tB n (dg pad)) := (nt_tB_dg hn hp).enc
          have hlt := nt_enc_lt hn (nt_tB n (dg pad))
          rw [if_neg (show ¬ nt_i true = 0 by decide), if_pos (show nt_i true = 1 from rfl), u1, ml_b, if_neg (show ¬ nt_i true = 0 by decide), nt_netOfTriples hn hn3 hs hd2, ml_b, nt_hold k3, ml_b]
          show ∃ r nums' size' x1 x2 said' st', (M_X0_takeTriples (nI n) (fa_fill (fun _ => 0) nr 7) (nI (nt_n3f n)) signs).bind _ = _ ∧ _
          rw [t1, ml_b]
          cases b with
          | false =>
            rw [if_pos (show (nt_i false, rw1).1 = 0 from rfl), if_pos nt_i0]
            exact ⟨_, _, _, _, _, _, _, rfl, rfl, ⟨_, hS0⟩, ⟨_, hP0⟩⟩
          | true =>
            rw [if_neg (show ¬ (nt_i true, rw1).1 = 0 from iv_10), if_neg (show ¬ nt_i true = 0 by decide)]
            show ∃ r nums' size' x1 x2 said' st', (M_X0_number (nI n) rw1).bind _ = _ ∧ _
            rw [nt_number hn (t3 rfl), ml_b, ml_gi k3 (by omega), ml_gi k3 (by omega), nI_clamp (by omega), he]
            refine ⟨_, _, _, _, _, _, _, rfl, ?_, ⟨_, iv_S_put hS0 k3 hlt⟩, ⟨0, hP1⟩⟩
            rw [show upd nums k (nI (nt_enc n (nt_tB n (dg pad)))) k = nI (nt_enc n (nt_tB n (dg pad))) from if_pos rfl]
      · have hr6 : ¬ r = -6 := fun z => hno (by rw [z]; decide)
        rw [if_neg hr6, if_neg hno]
        exact ⟨_, _, _, _, _, _, _, rfl, rfl, ⟨_, hS0⟩, ⟨_, hP0⟩⟩
    · rw [e1, e2, ml_b, ml_b, if_neg iv_10, if_neg iv_10, j3]
      exact ⟨_, _, _, _, _, _, _, rfl, rfl, ⟨_, hS0⟩, ⟨_, hP0⟩⟩
  · rw [e1, e2]
    exact ⟨_, _, _, _, _, _, _, rfl, rfl, ⟨_, hS0⟩, ⟨_, hP0⟩⟩
