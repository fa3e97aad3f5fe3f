/-! ===== the pad ===== -/
def iv_P (sz : Nat) (size said : Int32) (signs pad : Nat → Int32) : Prop := sz ≤ 35 ∧ size = nI sz ∧ said = nI sz ∧ ∀ i, i < sz → signs i = pad i
theorem n35 : (35 : Int32) = nI 35 := by decide
theorem st_say {sz : Nat} {size said : Int32} {signs pad : Nat → Int32} (h : iv_P sz size said signs pad) (v1 : Int32) : ∃ r size' signs' said' pad', M_X5_say v1 size signs = some (r, size', signs') ∧ M_X6_say v1 said pad = some (r, said', pad') ∧ ∃ sz', iv_P sz' size' said' signs' pad' := by
  have h0 := h
  obtain ⟨h35, rfl, rfl, hp⟩ := h
  unfold M_X5_say M_X6_say M_X1_put
  rw [iv_same]
  rcases iv_inLH v1 (lo := 33) (hi := 126) (by decide) (by decide) with ⟨m, m1, m2, rfl, m3⟩ | ⟨_, m3⟩
  · have m3 : M_X5_within (nI m) 33 126 = some 1 := m3
    rw [m3, ml_b, ml_b, if_neg iv_10, if_neg iv_10, n35]
    by_cases c : sz = 35
    · rw [c, if_neg (nI_nlt (Nat.le_refl _) (by omega)), if_pos rfl]
      rw [c] at h0
      exact ⟨_, _, _, _, _, rfl, rfl, _, h0⟩
    · rw [if_pos (nI_lt (by omega) (by omega)), if_neg (fun z => c ((nI_eq (by omega) (by omega)).mp z)), if_neg (nI_ge (by omega) (by omega)), ml_gi (by omega) (by omega), ml_gi (by omega) (by omega), ml_let, ml_let, ml_b, nI_clamp (by omega), nI_1]
      refine ⟨_, _, _, _, _, rfl, rfl, sz + 1, by omega, rfl, rfl, fun i hi => ?_⟩
      by_cases e : i = sz
      · rw [e]
        exact (if_pos rfl : upd signs sz (nI m) sz = nI m).trans (if_pos rfl : upd pad sz (nI m) sz = nI m).symm
      · exact (if_neg e : upd signs sz (nI m) i = _).trans ((hp i (by omega)).trans (if_neg e : upd pad sz (nI m) i = _).symm)
  · have m3 : M_X5_within v1 33 126 = some 0 := m3
    rw [m3]
    exact ⟨_, _, _, _, _, rfl, rfl, _, h0⟩
theorem st_wipe {sz : Nat} {size said : Int32} {signs pad : Nat → Int32} (h : iv_P sz size said signs pad) : ∃ r size' said', M_X5_wipe size = some (r, size') ∧ M_X6_wipe said = some (r, said') ∧ iv_P 0 size' said' signs pad := by
  obtain ⟨h35, rfl, rfl, hp⟩ := h
  exact ⟨_, _, _, rfl, rfl, Nat.zero_le _, rfl, rfl, fun i hi => absurd hi (Nat.not_lt_zero i)⟩
def fq (w : Nat) (signs : Nat → Int32) (i : Nat) : Prop := w ≤ i ∨ ¬ (signs i = 48 ∨ signs i = 49)
def fr (w sz : Nat) (signs : Nat → Int32) (r : Int32) : Prop := (r = -6 ∧ sz = w ∧ ∀ i, i < sz → signs i = 48 ∨ signs i = 49) ∨ (¬ r < 0)
theorem iv_01 (x : Int32) : (M_X5_within x 48 49 = some 1 ∧ (x = 48 ∨ x = 49)) ∨ (M_X5_within x 48 49 = some 0 ∧ ¬ (x = 48 ∨ x = 49)) := by
  rcases iv_inLH x (lo := 48) (hi := 49) (by decide) (by decide) with ⟨m, m1, m2, rfl, m3⟩ | ⟨m1, m3⟩
  · left
    refine ⟨m3, ?_⟩
    rcases (show m = 48 ∨ m = 49 by omega) with rfl | rfl
    · left; rfl
    · right; rfl
  · right
    refine ⟨m3, ?_⟩
    rintro (h | h)
    · exact m1 48 (by omega) (by omega) h
    · exact m1 49 (by omega) (by omega) h
theorem nt_fault1 {w sz : Nat} {signs : Nat → Int32} (h35 : sz ≤ 35) (hw : w < 2 ^ 31) : ∃ r, on_loop (fun (s : Int32) => B_X1_faultFor_2 (nI w) (nI sz) signs s) on_F (0 : Int32) = some r ∧ ((r = Sum.inr () ∧ ∀ i, i < sz → ¬ fq w signs i) ∨ ∃ p, r = Sum.inl (nI p) ∧ p < sz ∧ fq w signs p ∧ ∀ j, j < p → ¬ fq w signs j) := by
  refine ml_invF (fun i s => s = nI i ∧ ∀ j, j < i → ¬ fq w signs j) _ sz (by omega) (fun i s hi hs => ?_) (fun s hs => ?_) ⟨rfl, fun j hj => absurd hj (Nat.not_lt_zero j)⟩
  · obtain ⟨rfl, hs⟩ := hs
    by_cases c : w ≤ i
    · refine Or.inr ⟨_, ?_, Or.inr ⟨i, rfl, hi, Or.inl c, hs⟩⟩
      unfold B_X1_faultFor_2
      rw [if_neg (nI_ge hi (by omega)), if_pos (nI_le c (by omega))]
    · by_cases c1 : signs i = 48
      · refine Or.inl ⟨nI (i + 1), ?_, rfl, fun j hj => ?_⟩
        · unfold B_X1_faultFor_2
          rw [if_neg (nI_ge hi (by omega)), if_neg (nI_ge (by omega) hw), ml_gi (by omega) (by omega), nI_clamp (by omega), if_pos c1, ml_let, nI_1]
        · by_cases e : j = i
          · rw [e]
            rintro (z | z)
            · exact c z
            · exact z (Or.inl c1)
          · exact hs j (by omega)
      · by_cases c2 : signs i = 49
        · refine Or.inl ⟨nI (i + 1), ?_, rfl, fun j hj => ?_⟩
          · unfold B_X1_faultFor_2
            rw [if_neg (nI_ge hi (by omega)), if_neg (nI_ge (by omega) hw), ml_gi (by omega) (by omega), nI_clamp (by omega), if_neg c1, ml_gi (by omega) (by omega), if_pos c2, ml_let, nI_1]
          · by_cases e : j = i
            · rw [e]
              rintro (z | z)
              · exact c z
              · exact z (Or.inr c2)
            · exact hs j (by omega)
        · refine Or.inr ⟨_, ?_, Or.inr ⟨i, rfl, hi, Or.inr (fun z => z.elim c1 c2), hs⟩⟩
          unfold B_X1_faultFor_2
          rw [if_neg (nI_ge hi (by omega)), if_neg (nI_ge (by omega) hw), ml_gi (by omega) (by omega), nI_clamp (by omega), if_neg c1, ml_gi (by omega) (by omega), if_neg c2]
  · obtain ⟨rfl, hs⟩ := hs
    refine ⟨_, ?_, Or.inl ⟨rfl, hs⟩⟩
    unfold B_X1_faultFor_2
    rw [if_pos (nI_le (Nat.le_refl _) (by omega))]
theorem nt_fault6 {w sz : Nat} {signs : Nat → Int32} (h35 : sz ≤ 35) (hw : w < 2 ^ 31) : ∃ r, on_loop (fun (s : Int32) => B_X6_faultAs_24 (nI w) (nI sz) signs s) on_F (0 : Int32) = some r ∧ ((r = Sum.inr () ∧ ∀ i, i < sz → ¬ fq w signs i) ∨ ∃ p, r = Sum.inl (nI p) ∧ p < sz ∧ fq w signs p ∧ ∀ j, j < p → ¬ fq w signs j) := by
  refine ml_invF (fun i s => s = nI i ∧ ∀ j, j < i → ¬ fq w signs j) _ sz (by omega) (fun i s hi hs => ?_) (fun s hs => ?_) ⟨rfl, fun j hj => absurd hj (Nat.not_lt_zero j)⟩
  · obtain ⟨rfl, hs⟩ := hs
    by_cases c : w ≤ i
    · refine Or.inr ⟨_, ?_, Or.inr ⟨i, rfl, hi, Or.inl c, hs⟩⟩
      unfold B_X6_faultAs_24
      rw [if_neg (nI_ge hi (by omega)), if_pos (nI_le c (by omega))]
    · rcases iv_01 (signs i) with ⟨d1, d2⟩ | ⟨d1, d2⟩
      · refine Or.inl ⟨nI (i + 1), ?_, rfl, fun j hj => ?_⟩
        · unfold B_X6_faultAs_24
          rw [if_neg (nI_ge hi (by omega)), if_neg (nI_ge (by omega) hw), ml_gi (by omega) (by omega), nI_clamp (by omega), iv_same, d1, ml_b, if_neg iv_10, ml_let, nI_1]
        · by_cases e : j = i
          · rw [e]
            rintro (z | z)
            · exact c z
            · exact z d2
          · exact hs j (by omega)
      · refine Or.inr ⟨_, ?_, Or.inr ⟨i, rfl, hi, Or.inr d2, hs⟩⟩
        unfold B_X6_faultAs_24
        rw [if_neg (nI_ge hi (by omega)), if_neg (nI_ge (by omega) hw), ml_gi (by omega) (by omega), nI_clamp (by omega), iv_same, d1, ml_b, if_pos rfl]
  · obtain ⟨rfl, hs⟩ := hs
    refine ⟨_, ?_, Or.inl ⟨rfl, hs⟩⟩
    unfold B_X6_faultAs_24
    rw [if_pos (nI_le (Nat.le_refl _) (by omega))]
theorem nt_fault {w sz : Nat} {signs pad : Nat → Int32} (h35 : sz ≤ 35) (hw : w < 2 ^ 31) (hp : ∀ i, i < sz → signs i = pad i) : ∃ r, M_X1_faultFor (nI w) (nI sz) signs = some r ∧ ((on_loop (fun (s : Int32) => B_X6_faultAs_24 (nI w) (nI sz) pad s) on_F (0 : Int32)).bind (Sum.elim some (fun _ => (if nI w ≤ nI sz then (some (-6 : Int32)) else (some (nI sz)))))) = some r ∧ fr w sz signs r := by
  obtain ⟨r1, h1, h2⟩ := nt_fault1 (signs := signs) h35 hw
  obtain ⟨r2, h3, h4⟩ := nt_fault6 (signs := pad) h35 hw
  unfold M_X1_faultFor
  have hfq : ∀ i, i < sz → (fq w signs i ↔ fq w pad i) := fun i hi => by unfold fq; rw [hp i hi]
  rw [h1, h3, ml_b, ml_b]
  have hno : (∀ i, i < sz → ¬ fq w signs i) → sz ≤ w := fun h => by
    rcases Nat.lt_or_ge w sz with c | c
    · exact absurd (Or.inl (Nat.le_refl w)) (h w c)
    · exact c
  rcases h2 with ⟨rfl, h2⟩ | ⟨p, rfl, p1, p2, p3⟩
  · rcases h4 with ⟨rfl, h4⟩ | ⟨p, rfl, q1, q2, q3⟩
    · have hle := hno h2
      show ∃ r, (if nI w ≤ nI sz then _ else _) = _ ∧ (if nI w ≤ nI sz then _ else _) = _ ∧ _
      by_cases c : w ≤ sz
      · rw [if_pos (nI_le c (by omega))]
        refine ⟨_, rfl, rfl, Or.inl ⟨rfl, by omega, fun i hi => ?_⟩⟩
        have := h2 i hi
        by_cases d : signs i = 48 ∨ signs i = 49
        · exact d
        · exact absurd (Or.inr d) this
      · rw [if_neg (nI_ge (by omega) hw)]
        exact ⟨_, rfl, rfl, Or.inr (nI_pos (by omega))⟩
    · exact absurd ((hfq p q1).mpr q2) (h2 p q1)
  · rcases h4 with ⟨rfl, h4⟩ | ⟨q, rfl, q1, q2, q3⟩
    · exact absurd ((hfq p p1).mp p2) (h4 p p1)
    · have e : p = q := fb_first_one (p := fq w signs) p2 p3 ((hfq q q1).mpr q2) (fun j hj z => q3 j hj ((hfq j (by omega)).mp z))
      rw [e]
      exact ⟨_, rfl, rfl, Or.inr (nI_pos (by omega))⟩
def nt_n3f (n : Nat) : Nat := n * (n - 1) * (n - 2) / 6
theorem nt_tri : ∀ n, n < 8 → M_X5_triplesOf (nI n) = some (nI (nt_n3f n)) ∧ nt_n3f n < 36 := by decide +kernel
def nt_w (n : Nat) (how : Bool) : Nat := if how then nt_n3f n else nt_np n
theorem nt_w_lt {n : Nat} (hn : n < 8) (how : Bool) : nt_w n how < 36 := by
  cases how
  · have := nt_np_lt n hn
    show nt_np n < 36
    omega
  · exact (nt_tri n hn).2
theorem nt_signsFor {n : Nat} (hn : n < 8) (how : Bool) : M_X5_signsFor (nt_i how) (nI n) = some (nI (nt_w n how)) := by
  unfold M_X5_signsFor
  cases how
  · rw [if_pos nt_i0, nt_pairsOf n hn]
    rfl
  · rw [if_neg (by decide), (nt_tri n hn).1]
    rfl
theorem nt_faults {n sz : Nat} {st signs pad : Nat → Int32} (hn : n < 8) (hs : st 0 = nI n) (h35 : sz ≤ 35) (hp : ∀ i, i < sz → signs i = pad i) (how : Bool) : ∃ r, M_X1_faultFor (nI (nt_w n how)) (nI sz) signs = some r ∧ M_X6_faultAs (nt_i how) (nI sz) st pad = some r ∧ fr (nt_w n how) sz signs r := by
  obtain ⟨r, h1, h2, h3⟩ := nt_fault (w := nt_w n how) h35 (by have := nt_w_lt hn how; omega) hp
  refine ⟨r, h1, ?_, h3⟩
  unfold M_X6_faultAs
  cases how
  · rw [if_pos nt_i0, nt_many hs, ml_b, nt_mpairs n hn, ml_b]
    exact h2
  · rw [if_neg (by decide), nt_many hs, ml_b, nt_triples n hn, (nt_tri n hn).1, ml_b]
    exact h2
theorem iv_how (v : Int32) : (∃ how : Bool, v = nt_i how ∧ M_X5_within v 0 1 = some 1) ∨ M_X5_within v 0 1 = some 0 := by
  rcases iv_in v (m := 1) (by decide) with ⟨k, k1, rfl, k3⟩ | k3
  · left
    rcases (show k = 0 ∨ k = 1 by omega) with rfl | rfl
    · exact ⟨false, rfl, k3⟩
    · exact ⟨true, rfl, k3⟩
  · exact Or.inr k3
theorem st_fault {n : Nat} {a : Nat → Nat} {mc : Int32} {nums st : Nat → Int32} (hS : iv_S n a mc nums st) {sz : Nat} {size said : Int32} {signs pad : Nat → Int32} (h : iv_P sz size said signs pad) (v1 : Int32) : ∃ r, M_X5_fault v1 mc size signs = some r ∧ M_X6_fault v1 said st pad = some r := by
  obtain ⟨hn, hn3, rfl, hs, hk⟩ := hS
  obtain ⟨h35, rfl, rfl, hp⟩ := h
  unfold M_X5_fault M_X6_fault
  rw [iv_same]
  rcases iv_how v1 with ⟨how, rfl, k3⟩ | k3
  · obtain ⟨r, h1, h2, _⟩ := nt_faults hn hs h35 hp how
    rw [k3, ml_b, ml_b, if_neg iv_10, if_neg iv_10, nt_signsFor hn, ml_b, h1, h2]
    exact ⟨_, rfl, rfl⟩
  · rw [k3]
    exact ⟨_, rfl, rfl⟩
/-! pairs -/
def dg (signs : Nat → Int32) (i : Nat) : Bool := decide (signs i = 49)
theorem nt_tells {sz pl : Nat} {signs : Nat → Int32} (h35 : sz ≤ 35) (h : pl < sz) : M_X1_tells (nI pl) (nI sz) signs = some (nt_i (dg signs pl)) := by
  unfold M_X1_tells dg
  rw [if_neg (nI_pos (by omega)), if_neg (nI_ge h (by omega)), ml_gi (by omega) (by omega), nI_clamp (by omega)]
  by_cases c : signs pl = 49
  · rw [if_pos c, decide_eq_true c]; rfl
  · rw [if_neg c, decide_eq_false c]; rfl
def nt_pB (n : Nat) (d : Nat → Bool) : Nat → Nat → Bool := fun p q => if p = q then false else d (nt_ix n (min p q) (max p q))
theorem nt_pB_G (n : Nat) (d : Nat → Bool) : nt_G (nt_pB n d) := ⟨fun p q => by
  unfold nt_pB
  by_cases e : p = q
  · rw [if_pos e, if_pos e.symm]
  · rw [if_neg e, if_neg (fun z => e z.symm), Nat.min_comm, Nat.max_comm], fun p => if_pos rfl⟩
theorem nt_pB_lt {n : Nat} {d : Nat → Bool} {p q : Nat} (h : p < q) : nt_pB n d p q = d (nt_ix n p q) := by
  unfold nt_pB
  rw [if_neg (by omega), Nat.min_eq_left (by omega), Nat.max_eq_right (by omega)]
theorem nt_takePairs {n sz : Nat} {rows signs : Nat → Int32} (hn : n < 8) (h35 : sz ≤ 35) (hsz : sz = nt_np n) (h : nt_Rep n (nt_pt (nt_pB n (dg signs)) 0 1) rows) : ∃ rows', M_X0_takePairs (nI n) rows (nI sz) signs = some rows' ∧ nt_Rep n (nt_pB n (dg signs)) rows' := by
  have hnp := nt_np_lt n hn
  have hG := nt_pB_G n (dg signs)
  have inner : ∀ i, i < n → ∀ rows, nt_Rep n (nt_pt (nt_pB n (dg signs)) i (i + 1)) rows → ∃ r, on_loop (fun (s : Int32 × Int32 × (Nat → Int32)) => B_X0_takePairs_17 (nI i) (nI n) (nI sz) signs s.1 s.2.1 s.2.2) on_F (nI (nt_ix n i (i + 1)), nI (i + 1), rows) = some r ∧ r.1 = nI (nt_ix n (i + 1) (i + 1 + 1)) ∧ nt_Rep n (nt_pt (nt_pB n (dg signs)) (i + 1) (i + 1 + 1)) r.2 := by
    intro i hi rows hr
    refine ml_invF (fun k s => ∃ rows, s = (nI (nt_ix n i (i + 1 + k)), nI (i + 1 + k), rows) ∧ nt_Rep n (nt_pt (nt_pB n (dg signs)) i (i + 1 + k)) rows) _ (n - (i + 1)) (by omega) (fun k s hk hs => ?_) (fun s hs => ?_) ⟨rows, rfl, hr⟩
    · obtain ⟨rw1, rfl, hr⟩ := hs
      left
      have hix := (nt_PLix n hn (i + 1 + k) (by omega) i (by omega)).2
      have e := nt_pB_lt (n := n) (d := dg signs) (show i < i + 1 + k by omega)
      obtain ⟨rw2, h1, h2⟩ := nt_connect hn hr hi (show i + 1 + k < n by omega) (by omega) (nt_pB n (dg signs) i (i + 1 + k))
      rw [e] at h1
      refine ⟨(nI (nt_ix n i (i + 1 + (k + 1))), nI (i + 1 + (k + 1)), rw2), ?_, rw2, rfl, h2.congr (fun p q _ _ => nt_pt_step hG (by omega) p q)⟩
      show B_X0_takePairs_17 (nI i) (nI n) (nI sz) signs (nI (nt_ix n i (i + 1 + k))) (nI (i + 1 + k)) rw1 = _
      unfold B_X0_takePairs_17
      rw [if_neg (nI_ge (by omega) (by omega)), nt_tells h35 (by omega), ml_b, h1, ml_b, ml_let, ml_let, nI_1, nI_1, ← nt_ixS (by omega)]
      rfl
    · obtain ⟨rw1, rfl, hr⟩ := hs
      rw [show i + 1 + (n - (i + 1)) = n by omega] at hr
      refine ⟨(nI (nt_ix n i n), rw1), ?_, by rw [nt_ixN n hn i hi], hr.congr (fun p q hp hq => nt_pt_row hG p q hp hq)⟩
      show B_X0_takePairs_17 (nI i) (nI n) (nI sz) signs (nI (nt_ix n i (i + 1 + (n - (i + 1))))) (nI (i + 1 + (n - (i + 1)))) rw1 = _
      rw [show i + 1 + (n - (i + 1)) = n by omega]
      unfold B_X0_takePairs_17
      rw [if_pos (nI_le (Nat.le_refl n) (by omega))]
  have outer : ∃ r, on_loop (fun (s : Int32 × Int32 × (Nat → Int32)) => B_X0_takePairs_4 (nI n) (nI sz) signs s.1 s.2.1 s.2.2) on_F ((0 : Int32), (0 : Int32), rows) = some r ∧ nt_Rep n (nt_pB n (dg signs)) r := by
    refine ml_invF (fun i s => ∃ rows, s = (nI (nt_ix n i (i + 1)), nI i, rows) ∧ nt_Rep n (nt_pt (nt_pB n (dg signs)) i (i + 1)) rows) _ n (by omega) (fun i s hi hs => ?_) (fun s hs => ?_) ⟨rows, by rw [nt_ix0 n hn]; rfl, h⟩
    · obtain ⟨rw1, rfl, hr⟩ := hs
      left
      obtain ⟨⟨r1, r2⟩, h1, h2, h3⟩ := inner i hi rw1 hr
      have h2 : r1 = _ := h2
      subst h2
      refine ⟨_, ?_, r2, rfl, h3⟩
      show B_X0_takePairs_4 (nI n) (nI sz) signs (nI (nt_ix n i (i + 1))) (nI i) rw1 = _
      unfold B_X0_takePairs_4
      rw [if_neg (nI_ge hi (by omega)), ml_let, nI_1, h1, ml_b, ml_let]
    · obtain ⟨rw1, rfl, hr⟩ := hs
      refine ⟨rw1, ?_, hr.congr (fun p q hp hq => by unfold nt_pt; simp [show min p q < n by omega])⟩
      show B_X0_takePairs_4 (nI n) (nI sz) signs (nI (nt_ix n n (n + 1))) (nI n) rw1 = _
      unfold B_X0_takePairs_4
      rw [if_pos (nI_le (Nat.le_refl n) (by omega))]
  obtain ⟨r, h1, h2⟩ := outer
  unfold M_X0_takePairs
  rw [h1]
  exact ⟨r, rfl, h2⟩
theorem nt_eL_e (d : Nat → Bool) : ∀ m, nt_eL ((List.range m).map d) = pm_e d m
  | 0 => rfl
  | m + 1 => by
    rw [List.range_succ, List.map_append, pm_e, ← nt_eL_e d m]
    exact nt_eL_snoc _ _
theorem nt_pB_enc {n : Nat} (hn : n < 8) (d : Nat → Bool) : nt_enc n (nt_pB n d) = pm_e d (nt_np n) := by
  rw [← nt_eL_e]
  unfold nt_enc
  congr 1
  apply List.ext_getElem
  · rw [List.length_map, List.length_map, List.length_range, nt_PLlen n hn]
  · intro j h1 h2
    rw [List.getElem_map, List.getElem_map, List.getElem_range]
    rw [List.length_map, nt_PLlen n hn] at h1
    have h3 := nt_PLat n hn j h1
    have h4 : j < (nt_PL n).length := by rw [nt_PLlen n hn]; exact h1
    rw [List.getElem?_eq_getElem h4] at h3
    simp only [Option.all_some, Bool.and_eq_true, decide_eq_true_eq] at h3
    rw [nt_pB_lt h3.1.1, h3.2]
theorem nt_p48 {signs : Nat → Int32} {i : Nat} (h : signs i = 48 ∨ signs i = 49) : signs i = nI (48 + (dg signs i).toNat) := by
  unfold dg
  rcases h with h | h
  · rw [h]; decide
  · rw [h]; decide
theorem nI_sub {a b : Nat} (h : b ≤ a) : nI a - nI b = nI (a - b) := by
  have e := nI_add (a - b) b
  rw [Nat.sub_add_cancel h] at e
  rw [← e, Int32.add_sub_cancel]
theorem nt_netOfPad {n sz : Nat} {signs : Nat → Int32} (h35 : sz ≤ 35) (hsz : sz < 30) (hd : ∀ i, i < sz → signs i = 48 ∨ signs i = 49) : M_X6_netOfPad (nI sz) signs = some (nI (pm_e (dg signs) sz)) := by
  unfold M_X6_netOfPad
  refine ml_bb (r := nI (pm_e (dg signs) sz)) (ml_for (fun i => (nI (pm_e (dg signs) i), nI i)) sz (by omega) rfl (fun i hi => ?_) ?_) rfl
  · show B_X6_netOfPad_4 (nI sz) signs (nI (pm_e (dg signs) i)) (nI i) = _
    unfold B_X6_netOfPad_4
    rw [if_neg (nI_ge hi (by omega)), ml_gi (by omega) (by omega), nI_clamp (by omega), nt_p48 (hd i hi), nt_n2, nI_mul, nI_add, show (48 : Int32) = nI 48 by decide, nI_sub (by omega), ml_let, ml_let, nI_1, show 2 * pm_e (dg signs) i + (48 + (dg signs i).toNat) - 48 = 2 * pm_e (dg signs) i + (dg signs i).toNat by omega]
    rfl
  · show B_X6_netOfPad_4 (nI sz) signs (nI (pm_e (dg signs) sz)) (nI sz) = _
    unfold B_X6_netOfPad_4
    rw [if_pos (nI_le (Nat.le_refl _) (by omega))]
