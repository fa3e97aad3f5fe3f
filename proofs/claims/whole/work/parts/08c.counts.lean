/-! ===== counting classes, kinds and images ===== -/
theorem nt_triples : ∀ n, n < 8 → M_X6_triples (nI n) = M_X5_triplesOf (nI n) := by decide +kernel
theorem nt_triples_some : ∀ n, n < 8 → (M_X5_triplesOf (nI n)).isSome = true := by decide +kernel
theorem nt_marked {mk : Nat → Nat} {marks : Nat → Int32} (hm : ∀ k, k < 3 → marks k = nI (mk k) ∧ mk k < 2 ^ 31) {k : Nat} (hk : k < 3) : M_X5_isMarkedBefore (nI k) marks = some (nt_i (!nt_allb (fun j => !decide (mk j = mk k)) k)) := by
  have loop : ∃ r, on_loop (fun (s : Int32) => B_X5_isMarkedBefore_2 (nI k) marks s) on_F (0 : Int32) = some r ∧ ((r = Sum.inr () ∧ nt_allb (fun j => !decide (mk j = mk k)) k = true) ∨ (r = Sum.inl 1 ∧ nt_allb (fun j => !decide (mk j = mk k)) k = false)) := by
    refine ml_invF (fun i s => s = nI i ∧ nt_allb (fun j => !decide (mk j = mk k)) i = true) _ k (by omega) (fun i s hi hs => ?_) (fun s hs => ?_) ⟨rfl, rfl⟩
    · obtain ⟨rfl, hs⟩ := hs
      have h1 := hm i (by omega)
      have h2 := hm k hk
      by_cases e : mk i = mk k
      · refine Or.inr ⟨_, ?_, Or.inr ⟨rfl, nt_allb_f (i := i) (by simp [e]) hi⟩⟩
        unfold B_X5_isMarkedBefore_2
        rw [if_neg (nI_ge hi (by omega)), ml_gi (by omega) (by omega), ml_gi (by omega) (by omega), nI_clamp (by omega), nI_clamp (by omega), h1.1, h2.1, if_pos (by rw [e])]
      · refine Or.inl ⟨nI (i + 1), ?_, rfl, ?_⟩
        · unfold B_X5_isMarkedBefore_2
          rw [if_neg (nI_ge hi (by omega)), ml_gi (by omega) (by omega), ml_gi (by omega) (by omega), nI_clamp (by omega), nI_clamp (by omega), h1.1, h2.1, if_neg (fun z => e ((nI_eq h1.2 h2.2).mp z)), ml_let, nI_1]
        · show (nt_allb _ i && _) = true
          rw [hs]
          simp [e]
    · obtain ⟨rfl, hs⟩ := hs
      refine ⟨_, ?_, Or.inl ⟨rfl, hs⟩⟩
      unfold B_X5_isMarkedBefore_2
      rw [if_pos (nI_le (Nat.le_refl _) (by omega))]
  obtain ⟨r, h1, h2⟩ := loop
  unfold M_X5_isMarkedBefore
  rw [h1, ml_b]
  rcases h2 with ⟨rfl, h2⟩ | ⟨rfl, h2⟩
  · rw [h2]; rfl
  · rw [h2]; rfl
theorem nt_marks {mk : Nat → Nat} {marks : Nat → Int32} (hm : ∀ k, k < 3 → marks k = nI (mk k) ∧ mk k < 2 ^ 31) : M_X5_differentMarks marks = some (nI (fb_ct (fun k => nt_allb (fun j => !decide (mk j = mk k)) k) 3)) := by
  unfold M_X5_differentMarks
  generalize hf : (fun k => nt_allb (fun j => !decide (mk j = mk k)) k) = f
  have hf2 : ∀ k, nt_allb (fun j => !decide (mk j = mk k)) k = f k := fun k => by rw [← hf]
  refine ml_bb (r := nI (fb_ct f 3)) (ml_for (fun i => (nI (fb_ct f i), nI i)) 3 (by omega) rfl (fun i hi => ?_) ?_) rfl
  · show B_X5_differentMarks_4 marks (nI (fb_ct f i)) (nI i) = _
    unfold B_X5_differentMarks_4
    rw [nt_n3, if_neg (nI_ge hi (by omega)), nt_marked hm hi, ml_b, hf2, fb_ct_succ]
    cases f i with
    | false =>
      rw [if_neg (by decide), ml_let, nI_1]
      rfl
    | true =>
      rw [if_pos rfl, ml_let, ml_let, nI_1, nI_1]
      rfl
  · show B_X5_differentMarks_4 marks (nI (fb_ct f 3)) (nI 3) = _
    unfold B_X5_differentMarks_4
    rw [nt_n3, if_pos (nI_le (Nat.le_refl _) (by omega))]
theorem nt_classes {v1 : Int32} {st : Nat → Int32} (R : Nat → Nat → Bool) (hb : ∀ k j row used, j < k → k < 3 → ∃ row' used', B_X6_classes_15 v1 (nI k) st 1 (nI j) row used = some (Sum.inl (nt_i (!R k j), nI (j + 1), row', used'))) (row used : Nat → Int32) : ∃ row' used', M_X6_classes v1 st row used = some (nI (fb_ct (fun k => nt_allb (fun j => !R k j) k) 3), row', used') := by
  have inner : ∀ k, k < 3 → ∀ row used, ∃ r, on_loop (fun (s : Int32 × Int32 × (Nat → Int32) × (Nat → Int32)) => B_X6_classes_15 v1 (nI k) st s.1 s.2.1 s.2.2.1 s.2.2.2) on_F ((1 : Int32), (0 : Int32), row, used) = some r ∧ ∃ row' used', r = (nt_i (nt_allb (fun j => !R k j) k), row', used') := by
    intro k hk row used
    refine ml_invF (fun i s => ∃ row' used', s = (nt_i (nt_allb (fun j => !R k j) i), nI i, row', used')) _ k (by omega) (fun i s hi hs => ?_) (fun s hs => ?_) ⟨row, used, rfl⟩
    · obtain ⟨rw1, us1, rfl⟩ := hs
      left
      cases hc : nt_allb (fun j => !R k j) i with
      | false =>
        refine ⟨(nt_i false, nI (i + 1), rw1, us1), ?_, rw1, us1, ?_⟩
        · show B_X6_classes_15 v1 (nI k) st 0 (nI i) rw1 us1 = _
          unfold B_X6_classes_15
          rw [if_neg (nI_ge hi (by omega)), if_pos rfl, ml_let, nI_1]
          rfl
        · show _ = (nt_i (nt_allb _ i && _), _)
          rw [hc]
          rfl
      | true =>
        obtain ⟨rw2, us2, h1⟩ := hb k i rw1 us1 hi hk
        refine ⟨_, h1, rw2, us2, ?_⟩
        show _ = (nt_i (nt_allb _ i && _), _)
        rw [hc]
        rfl
    · obtain ⟨rw1, us1, rfl⟩ := hs
      refine ⟨(nt_i (nt_allb (fun j => !R k j) k), rw1, us1), ?_, rw1, us1, rfl⟩
      show B_X6_classes_15 v1 (nI k) st _ (nI k) rw1 us1 = _
      unfold B_X6_classes_15
      rw [if_pos (nI_le (Nat.le_refl _) (by omega))]
  generalize hf : (fun k => nt_allb (fun j => !R k j) k) = f
  have hf2 : ∀ k, nt_allb (fun j => !R k j) k = f k := fun k => by rw [← hf]
  have loop : ∃ r, on_loop (fun (s : Int32 × Int32 × (Nat → Int32) × (Nat → Int32)) => B_X6_classes_4 v1 st s.1 s.2.1 s.2.2.1 s.2.2.2) on_F ((0 : Int32), (0 : Int32), row, used) = some r ∧ ∃ row' used', r = (nI (fb_ct f 3), row', used') := by
    refine ml_invF (fun i s => ∃ row' used', s = (nI (fb_ct f i), nI i, row', used')) _ 3 (by omega) (fun i s hi hs => ?_) (fun s hs => ?_) ⟨row, used, rfl⟩
    · obtain ⟨rw1, us1, rfl⟩ := hs
      left
      obtain ⟨_, h1, rw2, us2, rfl⟩ := inner i hi rw1 us1
      refine ⟨(nI (fb_ct f (i + 1)), nI (i + 1), rw2, us2), ?_, rw2, us2, rfl⟩
      show B_X6_classes_4 v1 st (nI (fb_ct f i)) (nI i) rw1 us1 = _
      unfold B_X6_classes_4
      rw [nt_n3, if_neg (nI_ge hi (by omega)), h1, ml_b, hf2, fb_ct_succ]
      cases f i with
      | false =>
        rw [if_pos (show nt_i false = 0 from rfl), ml_let, ml_let, nI_1, nt_n0, nI_add]
        rfl
      | true =>
        rw [if_neg (show ¬ nt_i true = 0 by decide), ml_let, ml_let, nI_1, nI_1]
        rfl
    · obtain ⟨rw1, us1, rfl⟩ := hs
      refine ⟨(nI (fb_ct f 3), rw1, us1), ?_, rw1, us1, rfl⟩
      show B_X6_classes_4 v1 st (nI (fb_ct f 3)) (nI 3) rw1 us1 = _
      unfold B_X6_classes_4
      rw [nt_n3, if_pos (nI_le (Nat.le_refl _) (by omega))]
  obtain ⟨_, h1, rw1, us1, rfl⟩ := loop
  refine ⟨rw1, us1, ?_⟩
  unfold M_X6_classes
  rw [h1, ml_b]
section IVC
variable {n : Nat} {a : Nat → Nat} {mc : Int32} {nums st : Nat → Int32}
theorem nt_diffClasses (hS : iv_S n a mc nums st) (nm : Int32) (nr marks row used : Nat → Int32) : ∃ r x1 x2 x3 y1 y2, M_X5_differentClasses mc nums nm nr marks = some (r, x1, x2, x3) ∧ M_X6_classes 0 st row used = some (r, y1, y2) := by
  obtain ⟨hn, hn3, rfl, hs, hk⟩ := hS
  have hlt : ∀ k, nt_enc n (pm_al n (nt_adj n (a k)) 0) < 2 ^ 21 := fun k => nt_num_lt hn (nt_enc_lt hn _)
  obtain ⟨y1, y2, h6⟩ := nt_classes (v1 := 0) (st := st) (fun k j => decide (nt_enc n (pm_al n (nt_adj n (a j)) 0) = nt_enc n (pm_al n (nt_adj n (a k)) 0))) (fun k j row used hj hk3 => by
    obtain ⟨ha, _, h2⟩ := hk k hk3
    obtain ⟨hb, _, h4⟩ := hk j (by omega)
    refine ⟨row, used, ?_⟩
    have hneg := (sp_sb_neg (a := a k) (b := a j) hn).2
    unfold B_X6_classes_15
    rw [if_neg (nI_ge hj (by omega)), if_neg (by decide), if_pos rfl, nt_netOf hk3, ml_b, h2, nt_netOf (by omega), ml_b, h4, nt_setBetween hn hn3 ha hb hs, ml_b]
    by_cases c : nt_enc n (pm_al n (nt_adj n (a k)) 0) = nt_enc n (pm_al n (nt_adj n (a j)) 0)
    · rw [if_pos (fa_of_nlt (fun z => hneg.mp z c)), ml_let, nI_1]
      simp [c]
      rfl
    · rw [if_neg (fun z => (fa_of_lt (hneg.mpr c)).2.1 z), ml_let, nI_1]
      have c2 : ¬ nt_enc n (pm_al n (nt_adj n (a j)) 0) = nt_enc n (pm_al n (nt_adj n (a k)) 0) := fun z => c z.symm
      simp [c2]
      rfl) row used
  have loop : ∃ r, on_loop (fun (s : Int32 × Int32 × (Nat → Int32) × (Nat → Int32)) => B_X5_differentClasses_2 (nI n) nums s.1 s.2.1 s.2.2.1 s.2.2.2) on_F ((0 : Int32), nm, nr, marks) = some r ∧ ∃ x1 x2 mk, r = (x1, x2, mk) ∧ ∀ k, k < 3 → mk k = nI (nt_enc n (pm_al n (nt_adj n (a k)) 0)) ∧ nt_enc n (pm_al n (nt_adj n (a k)) 0) < 2 ^ 31 := by
    refine ml_invF (fun i s => ∃ x1 x2 mk, s = (nI i, x1, x2, mk) ∧ ∀ k, k < i → mk k = nI (nt_enc n (pm_al n (nt_adj n (a k)) 0))) _ 3 (by omega) (fun i s hi hs => ?_) (fun s hs => ?_) ⟨nm, nr, marks, rfl, fun k hk => absurd hk (Nat.not_lt_zero k)⟩
    · obtain ⟨x1, x2, mk, rfl, hm⟩ := hs
      left
      obtain ⟨ha, h1, _⟩ := hk i hi
      obtain ⟨ra, l1, l2⟩ := nt_load (rows := x2) hn ha hi h1
      obtain ⟨rb, l3, l4⟩ := nt_leaveAlone (p := 0) hn (by omega) l2
      refine ⟨(nI (i + 1), nI n, rb, upd mk i (nI (nt_enc n (pm_al n (nt_adj n (a i)) 0)))), ?_, _, _, _, rfl, fun k hk => ?_⟩
      · show B_X5_differentClasses_2 (nI n) nums (nI i) x1 x2 mk = _
        unfold B_X5_differentClasses_2
        rw [nt_n3, if_neg (nI_ge hi (by omega)), l1, ml_b]
        show (M_X0_leaveAlone (nI 0) (nI n) ra).bind _ = _
        rw [l3, ml_b]
        show (M_X0_number (nI n) rb).bind _ = _
        rw [nt_number hn l4, ml_b, ml_gi hi (by omega), nI_clamp (by omega), ml_let, nI_1]
        rfl
      · by_cases e : k = i
        · rw [e]
          exact if_pos rfl
        · exact (if_neg e).trans (hm k (by omega))
    · obtain ⟨x1, x2, mk, rfl, hm⟩ := hs
      refine ⟨(x1, x2, mk), ?_, x1, x2, mk, rfl, fun k hk => ⟨hm k hk, by have := hlt k; omega⟩⟩
      show B_X5_differentClasses_2 (nI n) nums (nI 3) x1 x2 mk = _
      unfold B_X5_differentClasses_2
      rw [nt_n3, if_pos (nI_le (Nat.le_refl _) (by omega))]
  obtain ⟨_, h1, x1, x2, mk, rfl, hm⟩ := loop
  refine ⟨_, x1, x2, mk, y1, y2, ?_, h6⟩
  unfold M_X5_differentClasses
  rw [h1, ml_b, nt_marks hm]
  rfl
theorem nt_diffKinds (hS : iv_S n a mc nums st) (nm : Int32) (nr at0 marks row used : Nat → Int32) : ∃ r x1 x2 x3 x4 y1 y2, M_X5_differentKinds mc nums nm nr at0 marks = some (r, x1, x2, x3, x4) ∧ M_X6_classes 1 st row used = some (r, y1, y2) := by
  obtain ⟨hn, hn3, rfl, hs, hk⟩ := hS
  have loop : ∃ r, on_loop (fun (s : Int32 × Int32 × (Nat → Int32) × (Nat → Int32) × (Nat → Int32)) => B_X5_differentKinds_2 (nI n) nums s.1 s.2.1 s.2.2.1 s.2.2.2.1 s.2.2.2.2) on_F ((0 : Int32), nm, nr, at0, marks) = some r ∧ ∃ x1 x2 x3 mk, r = (x1, x2, x3, mk) ∧ ∀ k, ∃ x, k < 3 → mk k = nI x ∧ pm_least n (nt_adj n (a k)) x := by
    refine ml_invF (fun i s => ∃ x1 x2 x3 mk, s = (nI i, x1, x2, x3, mk) ∧ ∀ k, ∃ x, k < i → mk k = nI x ∧ pm_least n (nt_adj n (a k)) x) _ 3 (by omega) (fun i s hi hs => ?_) (fun s hs => ?_) ⟨nm, nr, at0, marks, rfl, fun k => ⟨0, fun hk => absurd hk (Nat.not_lt_zero k)⟩⟩
    · obtain ⟨x1, x2, x3, mk, rfl, hm⟩ := hs
      left
      obtain ⟨ha, h1, _⟩ := hk i hi
      obtain ⟨x, xr, xa, q1, q2⟩ := nt_kindOfSlot hn hn3 ha hi h1 x2 x3
      refine ⟨(nI (i + 1), nI n, xr, xa, upd mk i (nI x)), ?_, _, _, _, _, rfl, fun k => ?_⟩
      · show B_X5_differentKinds_2 (nI n) nums (nI i) x1 x2 x3 mk = _
        unfold B_X5_differentKinds_2
        rw [nt_n3, if_neg (nI_ge hi (by omega)), q1, ml_b, ml_gi hi (by omega), nI_clamp (by omega), ml_let, nI_1]
      · by_cases e : k = i
        · rw [e]
          exact ⟨x, fun _ => ⟨if_pos rfl, q2⟩⟩
        · obtain ⟨y, hy⟩ := hm k
          exact ⟨y, fun hk => ⟨(if_neg e).trans (hy (by omega)).1, (hy (by omega)).2⟩⟩
    · obtain ⟨x1, x2, x3, mk, rfl, hm⟩ := hs
      refine ⟨(x1, x2, x3, mk), ?_, x1, x2, x3, mk, rfl, hm⟩
      show B_X5_differentKinds_2 (nI n) nums (nI 3) x1 x2 x3 mk = _
      unfold B_X5_differentKinds_2
      rw [nt_n3, if_pos (nI_le (Nat.le_refl _) (by omega))]
  obtain ⟨_, h1, x1, x2, x3, mk, rfl, hm⟩ := loop
  obtain ⟨f, hf⟩ := Classical.axiomOfChoice hm
  obtain ⟨y1, y2, h6⟩ := nt_classes (v1 := 1) (st := st) (fun k j => decide (f j = f k)) (fun k j row used hj hk3 => by
    obtain ⟨ha, _, h2⟩ := hk k hk3
    obtain ⟨hb, _, h4⟩ := hk j (by omega)
    obtain ⟨row1, us1, q5⟩ := nt_comesToC (a := a k) hn hn3 hb row used
    have q6 := pm_kinds hn (by omega) (nt_adj_G n (a k)) (nt_adj_G n (a j)) (hf k hk3).2 (hf j (by omega)).2
    have hle : pm_cc n (nt_adj n (a k)) (nt_adj n (a j)) ≤ 5040 := pm_n_le_f hn hn3 _
    refine ⟨row1, us1, ?_⟩
    unfold B_X6_classes_15
    rw [if_neg (nI_ge hj (by omega)), if_neg (by decide), if_neg (by decide), nt_many hs, ml_b, nt_netOf hk3, ml_b, h2, nt_netOf (by omega), ml_b, h4, q5, ml_b]
    by_cases c : f k = f j
    · have : 0 < pm_cc n (nt_adj n (a k)) (nt_adj n (a j)) := q6.mp c
      rw [if_neg (show ¬ nI (pm_cc n (nt_adj n (a k)) (nt_adj n (a j))) = 0 by rw [nt_n0]; exact fun z => absurd ((nI_eq (by omega) (by omega)).mp z) (by omega)), ml_let, nI_1]
      simp [c]
      rfl
    · have c2 : ¬ f j = f k := fun z => c z.symm
      have : ¬ 0 < pm_cc n (nt_adj n (a k)) (nt_adj n (a j)) := fun z => c (q6.mpr z)
      rw [if_pos (show nI (pm_cc n (nt_adj n (a k)) (nt_adj n (a j))) = 0 by rw [show pm_cc n (nt_adj n (a k)) (nt_adj n (a j)) = 0 by omega]; rfl), ml_let, nI_1]
      simp [c2]
      rfl) row used
  refine ⟨_, x1, x2, x3, mk, y1, y2, ?_, h6⟩
  unfold M_X5_differentKinds
  rw [h1, ml_b, nt_marks (mk := f) (fun k hk => ⟨(hf k hk).1, by have := nt_num_lt hn (pm_least_lt hn (hf k hk).2); omega⟩)]
  rfl
end IVC
/-! images -/
def iv_I (k : Nat) (im : Int32) (inn imgs kept : Nat → Int32) : Prop := (kept k = 0 ∧ im = 0) ∨ (kept k = 1 ∧ ∃ n a, iv_S n a im inn (fun j => imgs (4 * k + j)))
theorem iv_I0 {k : Nat} {im : Int32} {inn imgs kept : Nat → Int32} (h : iv_I k im inn imgs kept) : (kept k = 0 ↔ im = 0) := by
  rcases h with ⟨h1, h2⟩ | ⟨h1, n, a, hn, hn3, h2, _⟩
  · rw [h1, h2]
  · rw [h1, h2]
    constructor
    · intro z
      exact absurd z (by decide)
    · intro z
      rw [nt_n0] at z
      have := (nI_eq (by omega) (by omega)).mp z
      omega
theorem nt_keptImages (im0 im1 : Int32) : M_X5_keptImages im0 im1 = some (nI ((if im0 = 0 then 0 else 1) + (if im1 = 0 then 0 else 2))) := by
  unfold M_X5_keptImages
  refine ml_bb (r := nI ((if im0 = 0 then 0 else 1) + (if im1 = 0 then 0 else 2))) (ml_for (fun i => (if i = 0 then nI 0 else if i = 1 then nI (if im0 = 0 then 0 else 1) else nI ((if im0 = 0 then 0 else 1) + (if im1 = 0 then 0 else 2)), nI i)) 2 (by omega) rfl (fun i hi => ?_) ?_) rfl
  · rcases (show i = 0 ∨ i = 1 by omega) with rfl | rfl
    · show B_X5_keptImages_4 im0 im1 (nI 0) (nI 0) = some (Sum.inl (nI (if im0 = 0 then 0 else 1), nI 1))
      unfold B_X5_keptImages_4 M_X3_isUnused
      rw [if_neg (by decide), ml_gd (by decide), if_pos (by decide)]
      by_cases c : im0 = 0
      · rw [if_pos c, if_pos c]; rfl
      · rw [if_neg c, if_neg c]; rfl
    · show B_X5_keptImages_4 im0 im1 (nI (if im0 = 0 then 0 else 1)) (nI 1) = some (Sum.inl (nI ((if im0 = 0 then 0 else 1) + (if im1 = 0 then 0 else 2)), nI 2))
      unfold B_X5_keptImages_4 M_X3_isUnused
      rw [if_neg (by decide), ml_gd (by decide), if_neg (by decide)]
      by_cases c : im1 = 0
      · rw [if_pos c, if_pos c]; rfl
      · rw [if_neg c, if_neg c]
        by_cases c2 : im0 = 0
        · rw [if_pos c2]; rfl
        · rw [if_neg c2]; rfl
  · show B_X5_keptImages_4 im0 im1 (nI ((if im0 = 0 then 0 else 1) + (if im1 = 0 then 0 else 2))) (nI 2) = _
    unfold B_X5_keptImages_4
    rw [if_pos (by decide)]
section IVD
variable {n : Nat} {a : Nat → Nat} {mc : Int32} {nums st : Nat → Int32}
theorem st_count (hS : iv_S n a mc nums st) {im0 im1 : Int32} {in0 in1 imgs kept : Nat → Int32} (h0 : iv_I 0 im0 in0 imgs kept) (h1 : iv_I 1 im1 in1 imgs kept) (v1 sz nm : Int32) (nr at0 marks row used : Nat → Int32) : ∃ r x1 x2 x3 x4 y1 y2, M_X5_count v1 mc nums im0 im1 sz nm nr at0 marks = some (r, x1, x2, x3, x4) ∧ M_X6_count v1 sz st kept row used = some (r, y1, y2) := by
  obtain ⟨r4, p1, p2, p3, q1, q2, c4, d4⟩ := nt_diffClasses hS nm nr marks row used
  obtain ⟨r5, s1, s2, s3, s4, t1, t2, c5, d5⟩ := nt_diffKinds hS nm nr at0 marks row used
  obtain ⟨hn, hn3, rfl, hs, hk⟩ := hS
  unfold M_X5_count M_X6_count
  rw [nt_many hs]
  by_cases e0 : v1 = 0
  · rw [if_pos e0, if_pos e0]
    exact ⟨_, _, _, _, _, _, _, rfl, rfl⟩
  · rw [if_neg e0, if_neg e0]
    by_cases e1 : v1 = 1
    · rw [if_pos e1, if_pos e1, nt_pairsOf n hn, ml_b, ml_b, nt_mpairs n hn]
      exact ⟨_, _, _, _, _, _, _, rfl, rfl⟩
    · rw [if_neg e1, if_neg e1]
      by_cases e2 : v1 = 2
      · rw [if_pos e2, if_pos e2, ml_b, nt_triples n hn]
        obtain ⟨t, ht⟩ := Option.isSome_iff_exists.mp (nt_triples_some n hn)
        rw [ht]
        exact ⟨_, _, _, _, _, _, _, rfl, rfl⟩
      · rw [if_neg e2, if_neg e2]
        by_cases e3 : v1 = 3
        · rw [if_pos e3, if_pos e3]
          exact ⟨_, _, _, _, _, _, _, rfl, rfl⟩
        · rw [if_neg e3, if_neg e3]
          by_cases e4 : v1 = 4
          · rw [if_pos e4, if_pos e4, c4, d4]
            exact ⟨_, _, _, _, _, _, _, rfl, rfl⟩
          · rw [if_neg e4, if_neg e4]
            by_cases e5 : v1 = 5
            · rw [if_pos e5, if_pos e5, c5, d5]
              exact ⟨_, _, _, _, _, _, _, rfl, rfl⟩
            · rw [if_neg e5, if_neg e5]
              by_cases e6 : v1 = 6
              · rw [if_pos e6, if_pos e6, nt_keptImages, ml_b, ml_gd (show on_ixb 0 2 = true from rfl), ml_gd (show on_ixb 1 2 = true from rfl)]
                show ∃ r x1 x2 x3 x4 y1 y2, _ ∧ (if kept 0 = 0 then (if kept 1 = 0 then _ else _) else (if kept 1 = 0 then _ else _)) = _
                by_cases c0 : im0 = 0
                · rw [if_pos c0, if_pos ((iv_I0 h0).mpr c0)]
                  by_cases c1 : im1 = 0
                  · rw [if_pos c1, if_pos ((iv_I0 h1).mpr c1)]
                    exact ⟨_, _, _, _, _, _, _, rfl, rfl⟩
                  · rw [if_neg c1, if_neg (fun z => c1 ((iv_I0 h1).mp z))]
                    exact ⟨_, _, _, _, _, _, _, rfl, rfl⟩
                · rw [if_neg c0, if_neg (fun z => c0 ((iv_I0 h0).mp z))]
                  by_cases c1 : im1 = 0
                  · rw [if_pos c1, if_pos ((iv_I0 h1).mpr c1)]
                    exact ⟨_, _, _, _, _, _, _, rfl, rfl⟩
                  · rw [if_neg c1, if_neg (fun z => c1 ((iv_I0 h1).mp z))]
                    exact ⟨_, _, _, _, _, _, _, rfl, rfl⟩
              · rw [if_neg e6, if_neg e6]
                exact ⟨_, _, _, _, _, _, _, rfl, rfl⟩
end IVD
