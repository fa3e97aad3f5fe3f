/-! ===== all pairs alike: along the list of pairs ===== -/
def nt_om : Option Nat → Nat → Bool
  | none, _ => true
  | some y, z => decide (y = z)
def sp_al (S : Nat → Nat → Nat) (J : Nat → Nat → Bool) : List (Nat × Nat) → Option Nat → Bool
  | [], _ => true
  | x :: t, f => if J x.1 x.2 = true then nt_om f (S x.1 x.2) && sp_al S J t (some (S x.1 x.2)) else sp_al S J t f
def nt_o : Option Nat → Int32
  | none => -6
  | some y => nI y
theorem nt_o6 : ∀ y, y < 8 → ¬ nI y = (-6 : Int32) := by decide +kernel
theorem nt_oneg : ∀ y, y < 8 → ¬ nI y < (0 : Int32) := by decide +kernel
theorem nt_dropc {n p q : Nat} (hn : n < 8) (hp : p < q) (hq : q < n) : (nt_PL n).drop (nt_ix n p q) = (p, q) :: (nt_PL n).drop (nt_ix n p q + 1) := by
  obtain ⟨h1, h2⟩ := nt_PLix n hn q hq p hp
  have hl : nt_ix n p q < (nt_PL n).length := by rw [nt_PLlen n hn]; exact h2
  rw [List.getElem?_eq_getElem hl] at h1
  rw [List.drop_eq_getElem_cons hl, Option.some.inj h1]
theorem nt_dropE {n : Nat} (hn : n < 8) : (nt_PL n).drop (nt_ix n n (n + 1)) = [] := by
  rw [nt_ixE n hn, ← nt_PLlen n hn, List.drop_length]
theorem nt_drop0 {n : Nat} (hn : n < 8) : (nt_PL n).drop (nt_ix n 0 (0 + 1)) = nt_PL n := by
  rw [nt_ix0 n hn, List.drop_zero]
def sp_sh (n : Nat) (A : Nat → Nat → Bool) (p q : Nat) : Nat := fb_ct (fun j => A p j && A q j) n
def sp_ai (n : Nat) (A : Nat → Nat → Bool) (is : Bool) : Bool := sp_al (sp_sh n A) (fun p q => decide (A p q = is)) (nt_PL n) none
theorem nt_alike {n : Nat} {A : Nat → Nat → Bool} {rows : Nat → Int32} (hn : n < 8) (is : Bool) (h : nt_Rep n A rows) : M_X0_eachPairSharesAlike (nt_i is) (nI n) rows = some (nt_i (sp_ai n A is)) := by
  have inner : ∀ i, i < n → ∀ f, (∀ y, f = some y → y < 8) → sp_ai n A is = sp_al (sp_sh n A) (fun p q => decide (A p q = is)) ((nt_PL n).drop (nt_ix n i (i + 1))) f →
      ∃ r, on_loop (fun (s : Int32 × Int32) => B_X0_eachPairSharesAlike_18 (nt_i is) (nI i) (nI n) rows s.1 s.2) on_F (nt_o f, nI (i + 1)) = some r ∧ ((∃ f, (∀ y, f = some y → y < 8) ∧ r = Sum.inr (nt_o f) ∧ sp_ai n A is = sp_al (sp_sh n A) (fun p q => decide (A p q = is)) ((nt_PL n).drop (nt_ix n (i + 1) (i + 1 + 1))) f) ∨ (r = Sum.inl 0 ∧ sp_ai n A is = false)) := by
    intro i hi f hf he
    refine ml_invF (fun k s => ∃ f, (∀ y, f = some y → y < 8) ∧ s = (nt_o f, nI (i + 1 + k)) ∧ sp_ai n A is = sp_al (sp_sh n A) (fun p q => decide (A p q = is)) ((nt_PL n).drop (nt_ix n i (i + 1 + k))) f) _ (n - (i + 1)) (by omega) (fun k s hk hs => ?_) (fun s hs => ?_) ⟨f, hf, rfl, he⟩
    · obtain ⟨f, hf, rfl, he⟩ := hs
      have hj : i + 1 + k < n := by omega
      rw [nt_dropc hn (show i < i + 1 + k by omega) hj, ← nt_ixS (show i < i + 1 + k by omega)] at he
      have hsh : sp_sh n A i (i + 1 + k) < 8 := by have := fb_ct_le (fun j => A i j && A (i + 1 + k) j) n; unfold sp_sh; omega
      by_cases e : A i (i + 1 + k) = is
      · have he2 : sp_ai n A is = (nt_om f (sp_sh n A i (i + 1 + k)) && sp_al (sp_sh n A) (fun p q => decide (A p q = is)) ((nt_PL n).drop (nt_ix n i (i + 1 + k + 1))) (some (sp_sh n A i (i + 1 + k)))) := by
          rw [he]
          show (if decide (A i (i + 1 + k) = is) = true then _ else _) = _
          rw [if_pos (by simp [e])]
        cases f with
        | none =>
          left
          refine ⟨(nt_o (some (sp_sh n A i (i + 1 + k))), nI (i + 1 + (k + 1))), ?_, _, fun y hy => by cases hy; exact hsh, rfl, he2⟩
          show B_X0_eachPairSharesAlike_18 (nt_i is) (nI i) (nI n) rows (-6) (nI (i + 1 + k)) = _
          unfold B_X0_eachPairSharesAlike_18
          rw [if_neg (nI_ge hj (by omega)), nt_joined hn h hi hj, ml_b, if_pos (by rw [e]), nt_shared hn h hi hj, ml_b, if_pos rfl, ml_let, nI_1]
          rfl
        | some y =>
          have hy := hf y rfl
          by_cases e2 : y = sp_sh n A i (i + 1 + k)
          · left
            subst e2
            refine ⟨(nt_o (some (sp_sh n A i (i + 1 + k))), nI (i + 1 + (k + 1))), ?_, _, fun y hy => by cases hy; exact hsh, rfl, by rw [he2]; simp [nt_om]; rfl⟩
            show B_X0_eachPairSharesAlike_18 (nt_i is) (nI i) (nI n) rows (nI (sp_sh n A i (i + 1 + k))) (nI (i + 1 + k)) = _
            unfold B_X0_eachPairSharesAlike_18
            rw [if_neg (nI_ge hj (by omega)), nt_joined hn h hi hj, ml_b, if_pos (by rw [e]), nt_shared hn h hi hj, ml_b, if_neg (nt_o6 _ hy), if_pos (show nI (sp_sh n A i (i + 1 + k)) = nI (fb_ct _ n) from rfl), ml_let, nI_1]
            rfl
          · right
            refine ⟨Sum.inl 0, ?_, Or.inr ⟨rfl, by rw [he2]; simp [nt_om, e2]⟩⟩
            show B_X0_eachPairSharesAlike_18 (nt_i is) (nI i) (nI n) rows (nI y) (nI (i + 1 + k)) = _
            unfold B_X0_eachPairSharesAlike_18
            rw [if_neg (nI_ge hj (by omega)), nt_joined hn h hi hj, ml_b, if_pos (by rw [e]), nt_shared hn h hi hj, ml_b, if_neg (nt_o6 _ hy)]
            have e3 : ¬ y = fb_ct (fun j => A i j && A (i + 1 + k) j) n := e2
            have h5 := fb_ct_le (fun j => A i j && A (i + 1 + k) j) n
            rw [if_neg (fun z => e3 ((nI_eq (by omega) (by omega)).mp z))]
      · left
        refine ⟨(nt_o f, nI (i + 1 + (k + 1))), ?_, f, hf, rfl, ?_⟩
        · show B_X0_eachPairSharesAlike_18 (nt_i is) (nI i) (nI n) rows (nt_o f) (nI (i + 1 + k)) = _
          unfold B_X0_eachPairSharesAlike_18
          rw [if_neg (nI_ge hj (by omega)), nt_joined hn h hi hj, ml_b, if_neg (fun z => e (nt_i_inj.mp z)), ml_let, nI_1]
          rfl
        · rw [he]
          show (if decide (A i (i + 1 + k) = is) = true then _ else _) = _
          rw [if_neg (by simp [e])]
          rfl
    · obtain ⟨f, hf, rfl, he⟩ := hs
      rw [show i + 1 + (n - (i + 1)) = n by omega, nt_ixN n hn i hi] at he
      refine ⟨Sum.inr (nt_o f), ?_, Or.inl ⟨f, hf, rfl, he⟩⟩
      show B_X0_eachPairSharesAlike_18 (nt_i is) (nI i) (nI n) rows (nt_o f) (nI (i + 1 + (n - (i + 1)))) = _
      rw [show i + 1 + (n - (i + 1)) = n by omega]
      unfold B_X0_eachPairSharesAlike_18
      rw [if_pos (nI_le (Nat.le_refl n) (by omega))]
  have outer : ∃ r, on_loop (fun (s : Int32 × Int32) => B_X0_eachPairSharesAlike_5 (nt_i is) (nI n) rows s.1 s.2) on_F ((-6 : Int32), (0 : Int32)) = some r ∧ ((r = Sum.inr () ∧ sp_ai n A is = true) ∨ (r = Sum.inl 0 ∧ sp_ai n A is = false)) := by
    refine ml_invF (fun i s => ∃ f, (∀ y, f = some y → y < 8) ∧ s = (nt_o f, nI i) ∧ sp_ai n A is = sp_al (sp_sh n A) (fun p q => decide (A p q = is)) ((nt_PL n).drop (nt_ix n i (i + 1))) f) _ n (by omega) (fun i s hi hs => ?_) (fun s hs => ?_) ⟨none, (fun y hy => by cases hy), rfl, by rw [nt_drop0 hn]; rfl⟩
    · obtain ⟨f, hf, rfl, he⟩ := hs
      obtain ⟨r, h1, h2⟩ := inner i hi f hf he
      rcases h2 with ⟨g, hg, rfl, he2⟩ | ⟨rfl, he2⟩
      · left
        refine ⟨(nt_o g, nI (i + 1)), ?_, g, hg, rfl, he2⟩
        show B_X0_eachPairSharesAlike_5 (nt_i is) (nI n) rows (nt_o f) (nI i) = _
        unfold B_X0_eachPairSharesAlike_5
        rw [if_neg (nI_ge hi (by omega)), ml_let, nI_1, h1, ml_b]
        rfl
      · right
        refine ⟨Sum.inl 0, ?_, Or.inr ⟨rfl, he2⟩⟩
        show B_X0_eachPairSharesAlike_5 (nt_i is) (nI n) rows (nt_o f) (nI i) = _
        unfold B_X0_eachPairSharesAlike_5
        rw [if_neg (nI_ge hi (by omega)), ml_let, nI_1, h1, ml_b]
        rfl
    · obtain ⟨f, hf, rfl, he⟩ := hs
      rw [nt_dropE hn] at he
      refine ⟨Sum.inr (), ?_, Or.inl ⟨rfl, he⟩⟩
      show B_X0_eachPairSharesAlike_5 (nt_i is) (nI n) rows (nt_o f) (nI n) = _
      unfold B_X0_eachPairSharesAlike_5
      rw [if_pos (nI_le (Nat.le_refl n) (by omega))]
  obtain ⟨r, h1, h2⟩ := outer
  unfold M_X0_eachPairSharesAlike
  rw [h1, ml_b]
  rcases h2 with ⟨rfl, h3⟩ | ⟨rfl, h3⟩
  · rw [h3]
    rfl
  · rw [h3]
    rfl
def sp_st (n : Nat) (A : Nat → Nat → Bool) : Bool := sp_ai n A true && sp_ai n A false
theorem nt_isStrong {n : Nat} {A : Nat → Nat → Bool} {rows : Nat → Int32} (hn : n < 8) (h : nt_Rep n A rows) : M_X0_isStrong (nI n) rows = some (nt_i (sp_st n A)) := by
  have h1 := nt_alike hn true h
  have h0 := nt_alike hn false h
  unfold M_X0_isStrong
  rw [show M_X0_eachPairSharesAlike (1 : Int32) (nI n) rows = some (nt_i (sp_ai n A true)) from h1, ml_b, show M_X0_eachPairSharesAlike (0 : Int32) (nI n) rows = some (nt_i (sp_ai n A false)) from h0, ml_b]
  unfold sp_st
  cases sp_ai n A true <;> cases sp_ai n A false <;> rfl
theorem nt_mEvenly {n a : Nat} {st : Nat → Int32} (hn : n < 8) (is : Bool) (hs : st 0 = nI n) : M_X6_isEvenly (nI a) (nt_i is) st = some (nt_i (sp_ai n (nt_adj n a) is)) := by
  have inner : ∀ i, i < n → ∀ f b, (∀ y, f = some y → y < 8) → sp_ai n (nt_adj n a) is = (b && sp_al (sp_sh n (nt_adj n a)) (fun p q => decide (nt_adj n a p q = is)) ((nt_PL n).drop (nt_ix n i (i + 1))) f) →
      ∃ r, on_loop (fun (s : Int32 × Int32 × Int32) => B_X6_isEvenly_24 (nI a) (nt_i is) (nI i) st s.1 s.2.1 s.2.2) on_F (nt_o f, nt_i b, nI (i + 1)) = some r ∧ ∃ f b, (∀ y, f = some y → y < 8) ∧ r = (nt_o f, nt_i b) ∧ sp_ai n (nt_adj n a) is = (b && sp_al (sp_sh n (nt_adj n a)) (fun p q => decide (nt_adj n a p q = is)) ((nt_PL n).drop (nt_ix n (i + 1) (i + 1 + 1))) f) := by
    intro i hi f b hf he
    refine ml_invF (fun k s => ∃ f b, (∀ y, f = some y → y < 8) ∧ s = (nt_o f, nt_i b, nI (i + 1 + k)) ∧ sp_ai n (nt_adj n a) is = (b && sp_al (sp_sh n (nt_adj n a)) (fun p q => decide (nt_adj n a p q = is)) ((nt_PL n).drop (nt_ix n i (i + 1 + k))) f)) _ (n - (i + 1)) (by omega) (fun k s hk hs2 => ?_) (fun s hs2 => ?_) ⟨f, b, hf, rfl, he⟩
    · obtain ⟨f, b, hf, rfl, he⟩ := hs2
      left
      have hj : i + 1 + k < n := by omega
      rw [nt_dropc hn (show i < i + 1 + k by omega) hj, ← nt_ixS (show i < i + 1 + k by omega)] at he
      have hsh : sp_sh n (nt_adj n a) i (i + 1 + k) < 8 := by have := fb_ct_le (fun j => nt_adj n a i j && nt_adj n a (i + 1 + k) j) n; unfold sp_sh; omega
      by_cases e : nt_adj n a i (i + 1 + k) = is
      · have he2 : sp_ai n (nt_adj n a) is = (b && (nt_om f (sp_sh n (nt_adj n a) i (i + 1 + k)) && sp_al (sp_sh n (nt_adj n a)) (fun p q => decide (nt_adj n a p q = is)) ((nt_PL n).drop (nt_ix n i (i + 1 + k + 1))) (some (sp_sh n (nt_adj n a) i (i + 1 + k))))) := by
          rw [he]
          show (b && (if decide (nt_adj n a i (i + 1 + k) = is) = true then _ else _)) = _
          rw [if_pos (by simp [e])]
        have start : ∀ b2, (B_X6_isEvenly_24 (nI a) (nt_i is) (nI i) st (nt_o f) (nt_i b) (nI (i + 1 + k)) = some (Sum.inl (nI (sp_sh n (nt_adj n a) i (i + 1 + k)), nt_i b2, nI (i + 1 + k + 1)))) → sp_ai n (nt_adj n a) is = (b2 && sp_al (sp_sh n (nt_adj n a)) (fun p q => decide (nt_adj n a p q = is)) ((nt_PL n).drop (nt_ix n i (i + 1 + k + 1))) (some (sp_sh n (nt_adj n a) i (i + 1 + k)))) → ∃ s', B_X6_isEvenly_24 (nI a) (nt_i is) (nI i) st (nt_o f) (nt_i b) (nI (i + 1 + k)) = some (Sum.inl s') ∧ ∃ f b, (∀ y, f = some y → y < 8) ∧ s' = (nt_o f, nt_i b, nI (i + 1 + (k + 1))) ∧ sp_ai n (nt_adj n a) is = (b && sp_al (sp_sh n (nt_adj n a)) (fun p q => decide (nt_adj n a p q = is)) ((nt_PL n).drop (nt_ix n i (i + 1 + (k + 1)))) f) :=
          fun b2 h1 h2 => ⟨_, h1, some (sp_sh n (nt_adj n a) i (i + 1 + k)), b2, fun y hy => by cases hy; exact hsh, rfl, h2⟩
        cases b with
        | false =>
          refine start false ?_ (by rw [he2]; simp [nt_om])
          unfold B_X6_isEvenly_24
          rw [nt_many hs, ml_b, if_neg (nI_ge hj (by omega)), ml_b, nt_mjoined hn hi hj, ml_b, if_pos (by rw [e]), ml_b, nt_common hn hi hj, ml_b, if_pos nt_i0, ml_let, nI_1]
          rfl
        | true =>
          cases f with
          | none =>
            refine start true ?_ (by rw [he2]; simp [nt_om])
            unfold B_X6_isEvenly_24
            rw [nt_many hs, ml_b, if_neg (nI_ge hj (by omega)), ml_b, nt_mjoined hn hi hj, ml_b, if_pos (by rw [e]), ml_b, nt_common hn hi hj, ml_b, if_neg (by decide), if_pos (show nt_o none < 0 by decide), ml_let, nI_1]
            rfl
          | some y =>
            have hy := hf y rfl
            have h5 := fb_ct_le (fun j => nt_adj n a i j && nt_adj n a (i + 1 + k) j) n
            by_cases e2 : y = sp_sh n (nt_adj n a) i (i + 1 + k)
            · refine start true ?_ (by rw [he2]; simp [nt_om, e2])
              unfold B_X6_isEvenly_24
              rw [nt_many hs, ml_b, if_neg (nI_ge hj (by omega)), ml_b, nt_mjoined hn hi hj, ml_b, if_pos (by rw [e]), ml_b, nt_common hn hi hj, ml_b, if_neg (by decide), if_neg (show ¬ nt_o (some y) < 0 from nt_oneg y hy), if_pos (show nI _ = nt_o (some y) by rw [e2]; rfl), ml_let, nI_1]
              rfl
            · refine start false ?_ (by rw [he2]; simp [nt_om, e2])
              have e3 : ¬ fb_ct (fun j => nt_adj n a i j && nt_adj n a (i + 1 + k) j) n = y := fun z => e2 z.symm
              unfold B_X6_isEvenly_24
              rw [nt_many hs, ml_b, if_neg (nI_ge hj (by omega)), ml_b, nt_mjoined hn hi hj, ml_b, if_pos (by rw [e]), ml_b, nt_common hn hi hj, ml_b, if_neg (by decide), if_neg (show ¬ nt_o (some y) < 0 from nt_oneg y hy), if_neg (show ¬ nI _ = nt_o (some y) from fun z => e3 ((nI_eq (by omega) (by omega)).mp z)), ml_let, nI_1]
              rfl
      · refine ⟨(nt_o f, nt_i b, nI (i + 1 + (k + 1))), ?_, f, b, hf, rfl, ?_⟩
        · show B_X6_isEvenly_24 (nI a) (nt_i is) (nI i) st (nt_o f) (nt_i b) (nI (i + 1 + k)) = _
          unfold B_X6_isEvenly_24
          rw [nt_many hs, ml_b, if_neg (nI_ge hj (by omega)), ml_b, nt_mjoined hn hi hj, ml_b, if_neg (fun z => e (nt_i_inj.mp z)), ml_let, nI_1]
          rfl
        · rw [he]
          show (b && (if decide (nt_adj n a i (i + 1 + k) = is) = true then _ else _)) = _
          rw [if_neg (by simp [e])]
          rfl
    · obtain ⟨f, b, hf, rfl, he⟩ := hs2
      rw [show i + 1 + (n - (i + 1)) = n by omega, nt_ixN n hn i hi] at he
      refine ⟨(nt_o f, nt_i b), ?_, f, b, hf, rfl, he⟩
      show B_X6_isEvenly_24 (nI a) (nt_i is) (nI i) st (nt_o f) (nt_i b) (nI (i + 1 + (n - (i + 1)))) = _
      rw [show i + 1 + (n - (i + 1)) = n by omega]
      unfold B_X6_isEvenly_24
      rw [nt_many hs, ml_b, if_pos (nI_le (Nat.le_refl n) (by omega))]
  have outer : ∃ r, on_loop (fun (s : Int32 × Int32 × Int32) => B_X6_isEvenly_9 (nI a) (nt_i is) st s.1 s.2.1 s.2.2) on_F ((-6 : Int32), (1 : Int32), (0 : Int32)) = some r ∧ r = nt_i (sp_ai n (nt_adj n a) is) := by
    refine ml_invF (fun i s => ∃ f b, (∀ y, f = some y → y < 8) ∧ s = (nt_o f, nt_i b, nI i) ∧ sp_ai n (nt_adj n a) is = (b && sp_al (sp_sh n (nt_adj n a)) (fun p q => decide (nt_adj n a p q = is)) ((nt_PL n).drop (nt_ix n i (i + 1))) f)) _ n (by omega) (fun i s hi hs2 => ?_) (fun s hs2 => ?_) ⟨none, true, (fun y hy => by cases hy), rfl, by rw [nt_drop0 hn]; rfl⟩
    · obtain ⟨f, b, hf, rfl, he⟩ := hs2
      left
      obtain ⟨r, h1, g, b2, hg, rfl, he2⟩ := inner i hi f b hf he
      refine ⟨(nt_o g, nt_i b2, nI (i + 1)), ?_, g, b2, hg, rfl, he2⟩
      show B_X6_isEvenly_9 (nI a) (nt_i is) st (nt_o f) (nt_i b) (nI i) = _
      unfold B_X6_isEvenly_9
      rw [nt_many hs, ml_b, if_neg (nI_ge hi (by omega)), ml_let, nI_1, h1, ml_b, ml_let]
    · obtain ⟨f, b, hf, rfl, he⟩ := hs2
      rw [nt_dropE hn] at he
      refine ⟨nt_i b, ?_, by rw [he]; show nt_i b = nt_i (b && true); rw [Bool.and_true]⟩
      show B_X6_isEvenly_9 (nI a) (nt_i is) st (nt_o f) (nt_i b) (nI n) = _
      unfold B_X6_isEvenly_9
      rw [nt_many hs, ml_b, if_pos (nI_le (Nat.le_refl n) (by omega))]
  obtain ⟨r, h1, rfl⟩ := outer
  unfold M_X6_isEvenly
  rw [h1, ml_b, ml_gd (nt_isb _)]
/-! ===== regular classes of nets ===== -/
def sp_rg (n : Nat) (A : Nat → Nat → Bool) : Bool := (nt_PL n).all fun x => decide (sp_op n A x.1 x.2 = sp_op n A 0 1)
def sp_rv (n : Nat) (A : Nat → Nat → Bool) : Int32 := if sp_rg n A = true then nI (sp_op n A 0 1) else -6
theorem nt_eachPair {n : Nat} {A : Nat → Nat → Bool} {rows : Nat → Int32} (hn : n < 8) (hn2 : 2 ≤ n) (h : nt_Rep n A rows) : M_X0_oddTriplesOfEachPair (nI n) rows = some (sp_rv n A) := by
  have h01 : M_X0_oddTriplesAtPair (0 : Int32) (1 : Int32) (nI n) rows = some (nI (sp_op n A 0 1)) := nt_oddPair (p := 0) (q := 1) hn h (by omega) (by omega)
  have hle := sp_op_le n A 0 1
  have inner : ∀ i, i < n → sp_rg n A = ((nt_PL n).drop (nt_ix n i (i + 1))).all (fun x => decide (sp_op n A x.1 x.2 = sp_op n A 0 1)) →
      ∃ r, on_loop (fun (s : Int32) => B_X0_oddTriplesOfEachPair_21 (nI (sp_op n A 0 1)) (nI i) (nI n) rows s) on_F (nI (i + 1)) = some r ∧ ((r = Sum.inr () ∧ sp_rg n A = ((nt_PL n).drop (nt_ix n (i + 1) (i + 1 + 1))).all (fun x => decide (sp_op n A x.1 x.2 = sp_op n A 0 1))) ∨ (r = Sum.inl (-6) ∧ sp_rg n A = false)) := by
    intro i hi he
    refine ml_invF (fun k s => s = nI (i + 1 + k) ∧ sp_rg n A = ((nt_PL n).drop (nt_ix n i (i + 1 + k))).all (fun x => decide (sp_op n A x.1 x.2 = sp_op n A 0 1))) _ (n - (i + 1)) (by omega) (fun k s hk hs => ?_) (fun s hs => ?_) ⟨rfl, he⟩
    · obtain ⟨rfl, he⟩ := hs
      have hj : i + 1 + k < n := by omega
      rw [nt_dropc hn (show i < i + 1 + k by omega) hj, ← nt_ixS (show i < i + 1 + k by omega), List.all_cons] at he
      have hle2 := sp_op_le n A i (i + 1 + k)
      by_cases e : sp_op n A i (i + 1 + k) = sp_op n A 0 1
      · left
        refine ⟨nI (i + 1 + (k + 1)), ?_, rfl, by rw [he]; simp [e]; rfl⟩
        unfold B_X0_oddTriplesOfEachPair_21
        rw [if_neg (nI_ge hj (by omega)), nt_oddPair hn h hi hj, ml_b, if_pos (by rw [e]), ml_let, nI_1]
        rfl
      · right
        refine ⟨Sum.inl (-6), ?_, Or.inr ⟨rfl, by rw [he]; simp [e]⟩⟩
        unfold B_X0_oddTriplesOfEachPair_21
        rw [if_neg (nI_ge hj (by omega)), nt_oddPair hn h hi hj, ml_b, if_neg (fun z => e ((nI_eq (by omega) (by omega)).mp z))]
    · obtain ⟨rfl, he⟩ := hs
      rw [show i + 1 + (n - (i + 1)) = n by omega, nt_ixN n hn i hi] at he
      refine ⟨Sum.inr (), ?_, Or.inl ⟨rfl, he⟩⟩
      rw [show i + 1 + (n - (i + 1)) = n by omega]
      unfold B_X0_oddTriplesOfEachPair_21
      rw [if_pos (nI_le (Nat.le_refl n) (by omega))]
  have outer : ∃ r, on_loop (fun (s : Int32) => B_X0_oddTriplesOfEachPair_9 (nI (sp_op n A 0 1)) (nI n) rows s) on_F (0 : Int32) = some r ∧ ((r = Sum.inr () ∧ sp_rg n A = true) ∨ (r = Sum.inl (-6) ∧ sp_rg n A = false)) := by
    refine ml_invF (fun i s => s = nI i ∧ sp_rg n A = ((nt_PL n).drop (nt_ix n i (i + 1))).all (fun x => decide (sp_op n A x.1 x.2 = sp_op n A 0 1))) _ n (by omega) (fun i s hi hs => ?_) (fun s hs => ?_) ⟨rfl, by rw [nt_drop0 hn]; rfl⟩
    · obtain ⟨rfl, he⟩ := hs
      obtain ⟨r, h1, h2⟩ := inner i hi he
      rcases h2 with ⟨rfl, he2⟩ | ⟨rfl, he2⟩
      · left
        refine ⟨nI (i + 1), ?_, rfl, he2⟩
        unfold B_X0_oddTriplesOfEachPair_9
        rw [if_neg (nI_ge hi (by omega)), ml_let, nI_1, h1, ml_b]
        rfl
      · right
        refine ⟨Sum.inl (-6), ?_, Or.inr ⟨rfl, he2⟩⟩
        unfold B_X0_oddTriplesOfEachPair_9
        rw [if_neg (nI_ge hi (by omega)), ml_let, nI_1, h1, ml_b]
        rfl
    · obtain ⟨rfl, he⟩ := hs
      rw [nt_dropE hn] at he
      refine ⟨Sum.inr (), ?_, Or.inl ⟨rfl, he⟩⟩
      unfold B_X0_oddTriplesOfEachPair_9
      rw [if_pos (nI_le (Nat.le_refl n) (by omega))]
  obtain ⟨r, h1, h2⟩ := outer
  unfold M_X0_oddTriplesOfEachPair
  rw [h01, ml_b, h1, ml_b]
  unfold sp_rv
  rcases h2 with ⟨rfl, h3⟩ | ⟨rfl, h3⟩
  · rw [h3]
    rfl
  · rw [h3]
    rfl
theorem nt_mRegular {n a : Nat} {st : Nat → Int32} (hn : n < 8) (hn2 : 2 ≤ n) (hs : st 0 = nI n) : M_X6_regular (nI a) st = some (sp_rv n (nt_adj n a)) := by
  have h01 : M_X6_oddOfPair (nI n) (nI a) (0 : Int32) (1 : Int32) = some (nI (sp_op n (nt_adj n a) 0 1)) := nt_mOddPair (p := 0) (q := 1) hn (by omega) (by omega)
  have hle := sp_op_le n (nt_adj n a) 0 1
  have inner : ∀ i, i < n → ∀ b, sp_rg n (nt_adj n a) = (b && ((nt_PL n).drop (nt_ix n i (i + 1))).all (fun x => decide (sp_op n (nt_adj n a) x.1 x.2 = sp_op n (nt_adj n a) 0 1))) →
      ∃ r, on_loop (fun (s : Int32 × Int32) => B_X6_regular_31 (nI a) (nI (sp_op n (nt_adj n a) 0 1)) (nI i) st s.1 s.2) on_F (nt_i b, nI (i + 1)) = some r ∧ ∃ b, r = nt_i b ∧ sp_rg n (nt_adj n a) = (b && ((nt_PL n).drop (nt_ix n (i + 1) (i + 1 + 1))).all (fun x => decide (sp_op n (nt_adj n a) x.1 x.2 = sp_op n (nt_adj n a) 0 1))) := by
    intro i hi b he
    refine ml_invF (fun k s => ∃ b, s = (nt_i b, nI (i + 1 + k)) ∧ sp_rg n (nt_adj n a) = (b && ((nt_PL n).drop (nt_ix n i (i + 1 + k))).all (fun x => decide (sp_op n (nt_adj n a) x.1 x.2 = sp_op n (nt_adj n a) 0 1)))) _ (n - (i + 1)) (by omega) (fun k s hk hs2 => ?_) (fun s hs2 => ?_) ⟨b, rfl, he⟩
    · obtain ⟨b, rfl, he⟩ := hs2
      left
      have hj : i + 1 + k < n := by omega
      rw [nt_dropc hn (show i < i + 1 + k by omega) hj, ← nt_ixS (show i < i + 1 + k by omega), List.all_cons] at he
      have hle2 := sp_op_le n (nt_adj n a) i (i + 1 + k)
      refine ⟨(nt_i (b && decide (sp_op n (nt_adj n a) i (i + 1 + k) = sp_op n (nt_adj n a) 0 1)), nI (i + 1 + (k + 1))), ?_, _, rfl, by rw [he, Bool.and_assoc]; rfl⟩
      show B_X6_regular_31 (nI a) (nI (sp_op n (nt_adj n a) 0 1)) (nI i) st (nt_i b) (nI (i + 1 + k)) = _
      unfold B_X6_regular_31
      rw [nt_many hs, ml_b, if_neg (nI_ge hj (by omega)), ml_b, nt_mOddPair hn hi hj, ml_b]
      cases b with
      | false => rw [if_pos nt_i0, ml_let, nI_1]; rfl
      | true =>
        rw [if_neg (by decide)]
        by_cases e : sp_op n (nt_adj n a) i (i + 1 + k) = sp_op n (nt_adj n a) 0 1
        · rw [if_pos (by rw [e]), ml_let, nI_1, decide_eq_true e]
          rfl
        · rw [if_neg (fun z => e ((nI_eq (by omega) (by omega)).mp z)), ml_let, nI_1, decide_eq_false e]
          rfl
    · obtain ⟨b, rfl, he⟩ := hs2
      rw [show i + 1 + (n - (i + 1)) = n by omega, nt_ixN n hn i hi] at he
      refine ⟨nt_i b, ?_, b, rfl, he⟩
      show B_X6_regular_31 (nI a) (nI (sp_op n (nt_adj n a) 0 1)) (nI i) st (nt_i b) (nI (i + 1 + (n - (i + 1)))) = _
      rw [show i + 1 + (n - (i + 1)) = n by omega]
      unfold B_X6_regular_31
      rw [nt_many hs, ml_b, if_pos (nI_le (Nat.le_refl n) (by omega))]
  have outer : ∃ r, on_loop (fun (s : Int32 × Int32) => B_X6_regular_16 (nI a) (nI (sp_op n (nt_adj n a) 0 1)) st s.1 s.2) on_F ((1 : Int32), (0 : Int32)) = some r ∧ r = nt_i (sp_rg n (nt_adj n a)) := by
    refine ml_invF (fun i s => ∃ b, s = (nt_i b, nI i) ∧ sp_rg n (nt_adj n a) = (b && ((nt_PL n).drop (nt_ix n i (i + 1))).all (fun x => decide (sp_op n (nt_adj n a) x.1 x.2 = sp_op n (nt_adj n a) 0 1)))) _ n (by omega) (fun i s hi hs2 => ?_) (fun s hs2 => ?_) ⟨true, rfl, by rw [nt_drop0 hn]; rfl⟩
    · obtain ⟨b, rfl, he⟩ := hs2
      left
      obtain ⟨r, h1, b2, rfl, he2⟩ := inner i hi b he
      refine ⟨(nt_i b2, nI (i + 1)), ?_, b2, rfl, he2⟩
      show B_X6_regular_16 (nI a) (nI (sp_op n (nt_adj n a) 0 1)) st (nt_i b) (nI i) = _
      unfold B_X6_regular_16
      rw [nt_many hs, ml_b, if_neg (nI_ge hi (by omega)), ml_let, nI_1, h1, ml_b, ml_let]
    · obtain ⟨b, rfl, he⟩ := hs2
      rw [nt_dropE hn] at he
      refine ⟨nt_i b, ?_, by rw [he]; show nt_i b = nt_i (b && true); rw [Bool.and_true]⟩
      show B_X6_regular_16 (nI a) (nI (sp_op n (nt_adj n a) 0 1)) st (nt_i b) (nI n) = _
      unfold B_X6_regular_16
      rw [nt_many hs, ml_b, if_pos (nI_le (Nat.le_refl n) (by omega))]
  obtain ⟨r, h1, rfl⟩ := outer
  unfold M_X6_regular
  rw [nt_many hs, ml_b, h01, ml_b, h1, ml_b]
  unfold sp_rv
  cases sp_rg n (nt_adj n a) <;> rfl
