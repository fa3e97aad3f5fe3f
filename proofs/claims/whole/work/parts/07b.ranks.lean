/-! ===== the reference's ranks ===== -/
def pm_f : Nat → Nat
  | 0 => 1
  | n + 1 => pm_f n * (n + 1)
theorem pm_f_le : ∀ n, n < 8 → pm_f n ≤ 5040 ∧ 0 < pm_f n := by decide +kernel
theorem nt_orders : ∀ n, n < 8 → 1 ≤ n → M_X6_orders (nI n) = some (nI (pm_f n)) := by decide +kernel
def pd (n r p : Nat) : Nat := (r / pm_f (n - 1 - p)) % (n - p)
def pkL : List Nat → List Nat → List Nat
  | _, [] => []
  | av, d :: ds => av.getD d 0 :: pkL (av.erase (av.getD d 0)) ds
def pds (n r : Nat) : List Nat := (List.range n).map (pd n r)
def pr (n r : Nat) : List Nat := pkL (List.range n) (pds n r)
theorem pm_filt {f : Nat → Bool} : ∀ {n q : Nat}, q < n → f q = true → ((List.range n).filter f)[fb_ct f q]? = some q
  | 0, q, h, _ => absurd h (Nat.not_lt_zero q)
  | n + 1, q, h, hf => by
    rw [List.range_succ, List.filter_append]
    rcases Nat.lt_or_ge q n with h1 | h1
    · have ih := pm_filt h1 hf
      have hl : fb_ct f q < ((List.range n).filter f).length := by
        rcases Nat.lt_or_ge (fb_ct f q) ((List.range n).filter f).length with h2 | h2
        · exact h2
        · rw [List.getElem?_eq_none h2] at ih
          cases ih
      rw [List.getElem?_append_left hl]
      exact ih
    · have e : q = n := by omega
      subst e
      rw [pm_ct, List.getElem?_append_right (Nat.le_refl _), Nat.sub_self, List.filter_cons_of_pos hf]
      rfl
theorem nt_layRank {n r : Nat} (hn : n < 8) (hr : r < 5040) (row used : Nat → Int32) : ∃ row' used', M_X6_layRank (nI n) (nI r) row used = some (row', used') ∧ ∀ p, p < n → row' p = nI (pa (pr n r) p) := by
  let rowi : Nat → Nat → Int32 := fun i j => if n - i ≤ j ∧ j < n then nI (pd n r j) else row j
  let usedi : Nat → Nat → Int32 := fun i j => if n - i ≤ j ∧ j < n then 0 else used j
  have hfl : ∀ i, r / pm_f i < 5040 := fun i => Nat.lt_of_le_of_lt (Nat.div_le_self _ _) hr
  have l1 : on_loop (fun (s : Int32 × Int32 × (Nat → Int32) × (Nat → Int32)) => B_X6_layRank_7 (nI n) s.1 s.2.1 s.2.2.1 s.2.2.2) on_F (nI r, nI n - 1, row, used) = some (rowi n, usedi n) := by
    refine ml_for (fun i => (nI (r / pm_f i), nI (n - i) + (-1), rowi i, usedi i)) n (by omega) ?_ (fun i hi => ?_) ?_
    · have e1 : row = rowi 0 := by
        funext j
        show row j = if n - 0 ≤ j ∧ j < n then nI (pd n r j) else row j
        rw [if_neg (by omega)]
      have e2 : used = usedi 0 := by
        funext j
        show used j = if n - 0 ≤ j ∧ j < n then 0 else used j
        rw [if_neg (by omega)]
      show (nI r, nI n - 1, row, used) = (nI (r / 1), nI (n - 0) + (-1), rowi 0, usedi 0)
      rw [← e1, ← e2, Nat.div_one, Nat.sub_zero, Int32.sub_eq_add_neg]
    · show B_X6_layRank_7 (nI n) (nI (r / pm_f i)) (nI (n - i) + (-1)) (rowi i) (usedi i) = _
      have hd := hfl i
      have hv4 : nI (n - i) + (-1) = nI (n - 1 - i) := by rw [sb_m1 (by omega)]; congr 1; omega
      have hdif : nI n - nI (n - 1 - i) = nI (i + 1) := by rw [pk_sub (by omega)]; congr 1; omega
      have hnz : on_nz (nI (i + 1)) = true := by
        unfold on_nz
        exact decide_eq_true (nI_ne0 (by omega) (by omega))
      have hrow : upd (rowi i) (n - 1 - i) (nI (r / pm_f i % (i + 1))) = rowi (i + 1) := by
        funext j
        show (if j = n - 1 - i then nI (r / pm_f i % (i + 1)) else (if n - i ≤ j ∧ j < n then nI (pd n r j) else row j)) = (if n - (i + 1) ≤ j ∧ j < n then nI (pd n r j) else row j)
        by_cases e : j = n - 1 - i
        · subst e
          rw [if_pos rfl, if_pos (by omega)]
          unfold pd
          rw [show n - 1 - (n - 1 - i) = i by omega, show n - (n - 1 - i) = i + 1 by omega]
        · rw [if_neg e]
          by_cases h1 : n - i ≤ j ∧ j < n
          · rw [if_pos h1, if_pos (by omega)]
          · rw [if_neg h1, if_neg (by omega)]
      have hused : upd (usedi i) (n - 1 - i) (vp_nar .boolean (0 : Int32)) = usedi (i + 1) := by
        funext j
        show (if j = n - 1 - i then vp_nar .boolean (0 : Int32) else (if n - i ≤ j ∧ j < n then 0 else used j)) = (if n - (i + 1) ≤ j ∧ j < n then 0 else used j)
        by_cases e : j = n - 1 - i
        · subst e
          rw [if_pos rfl, if_pos (by omega)]
          rfl
        · rw [if_neg e]
          by_cases h1 : n - i ≤ j ∧ j < n
          · rw [if_pos h1, if_pos (by omega)]
          · rw [if_neg h1, if_neg (by omega)]
      unfold B_X6_layRank_7
      rw [hv4, if_neg (nI_pos (by omega)), hdif, ml_gd hnz, ml_gi (by omega) (by omega), ml_gd hnz, ml_let, ml_gi (by omega) (by omega), ml_let, nI_clamp (by omega), pk_rem (by omega) (by omega) (by omega), pk_div (by omega) (by omega) (by omega), hrow, hused, Nat.div_div_eq_div_mul, show n - 1 - i = n - (i + 1) by omega]
      rfl
    · show B_X6_layRank_7 (nI n) (nI (r / pm_f n)) (nI (n - n) + (-1)) (rowi n) (usedi n) = _
      unfold B_X6_layRank_7
      rw [Nat.sub_self, if_pos (by decide)]
  have inner : ∀ (us : Nat → Int32) (un : Nat → Bool) (d q : Nat), (∀ j, j < n → us j = nt_i (!un j)) → q < n → un q = true → fb_ct un q = d → on_loop (fun (s : Int32 × Int32) => B_X6_layRank_67 us s.1 s.2) on_F (nI d, (0 : Int32)) = some (nI q) := by
    intro us un d q hus hq huq hd
    have hdn := fb_ct_le un q
    refine ml_for (fun k => (nI (d - fb_ct un k), nI k)) q (by omega) rfl (fun k hk => ?_) ?_
    · show B_X6_layRank_67 us (nI (d - fb_ct un k)) (nI k) = _
      have hm := fb_ct_mono un (show k + 1 ≤ q by omega)
      rw [fb_ct_succ] at hm
      unfold B_X6_layRank_67
      rw [ml_gi (by omega) (by omega), nI_clamp (by omega), hus k (by omega), fb_ct_succ]
      cases hb : un k with
      | true =>
        rw [hb] at hm
        have hm : fb_ct un k + 1 ≤ fb_ct un q := hm
        rw [if_pos (by decide), if_neg (nI_nle (by omega) (by omega)), ml_gi (by omega) (by omega), if_pos (by decide), ml_let, ml_let, nI_1, nt_sub1 (by omega)]
        congr 3
      | false =>
        rw [if_neg (by decide), ml_gi (by omega) (by omega), if_neg (by decide), ml_let, ml_let, nI_1, Int32.sub_zero]
        rfl
    · show B_X6_layRank_67 us (nI (d - fb_ct un q)) (nI q) = _
      unfold B_X6_layRank_67
      rw [ml_gi (by omega) (by omega), nI_clamp (by omega), hus q hq, huq, if_pos (by decide), hd, Nat.sub_self, if_pos (by decide)]
  have l2 : ∃ z, on_loop (fun (s : Int32 × (Nat → Int32) × (Nat → Int32)) => B_X6_layRank_49 (nI n) s.1 s.2.1 s.2.2) on_F ((0 : Int32), rowi n, usedi n) = some z ∧ ∀ p, p < n → z.1 p = nI (pa (pr n r) p) := by
    refine ml_invF (fun p s => ∃ rw us un ch, s = (nI p, rw, us) ∧ (∀ j, j < n → us j = nt_i (!un j)) ∧ fb_ct un n = n - p ∧ (∀ j, p ≤ j → j < n → rw j = nI (pd n r j)) ∧ ch.length = p ∧ (∀ j, j < p → rw j = nI (pa ch j)) ∧ pr n r = ch ++ pkL ((List.range n).filter un) ((pds n r).drop p)) _ n (by omega) (fun p s hp hs => ?_) (fun s hs => ?_) ⟨rowi n, usedi n, fun _ => true, [], rfl, ?_, ?_, ?_, rfl, ?_, ?_⟩
    · obtain ⟨rw1, us, un, ch, rfl, h1, h2, h3, h4, h5, h6⟩ := hs
      left
      have hdlt : pd n r p < n - p := Nat.mod_lt _ (by omega)
      obtain ⟨q, hq, huq, hqd⟩ := fb_ct_kth (p := un) (k := pd n r p) (n := n) (by rw [h2]; exact hdlt)
      have hin := inner us un (pd n r p) q h1 hq huq hqd
      have hget : ((List.range n).filter un).getD (pd n r p) 0 = q := by
        have := pm_filt hq huq
        rw [hqd] at this
        rw [List.getD_eq_getElem?_getD, this]
        rfl
      have hdrop : (pds n r).drop p = pd n r p :: (pds n r).drop (p + 1) := by
        have hl : p < ((List.range n).map (pd n r)).length := by rw [List.length_map, List.length_range]; exact hp
        show ((List.range n).map (pd n r)).drop p = pd n r p :: ((List.range n).map (pd n r)).drop (p + 1)
        rw [List.drop_eq_getElem_cons hl, List.getElem_map, List.getElem_range]
      have hnd : ((List.range n).filter un).Nodup := List.nodup_range.filter un
      have her : ((List.range n).filter un).erase q = (List.range n).filter (fun j => (j != q) && un j) := by
        rw [hnd.erase_eq_filter, List.filter_filter]
      refine ⟨(nI (p + 1), upd rw1 p (nI q), upd us q 1), ?_, upd rw1 p (nI q), upd us q 1, (fun j => (j != q) && un j), ch ++ [q], rfl, ?_, ?_, ?_, ?_, ?_, ?_⟩
      · show B_X6_layRank_49 (nI n) (nI p) rw1 us = _
        unfold B_X6_layRank_49
        rw [if_neg (nI_ge hp (by omega)), ml_gi (by omega) (by omega), ml_let, nI_clamp (by omega), h3 p (Nat.le_refl p) hp, hin, ml_b, ml_gi (by omega) (by omega), ml_gi (by omega) (by omega), ml_let, nI_1, nI_clamp (by omega)]
        rfl
      · intro j hj
        by_cases e : j = q
        · subst e
          rw [pk_us]
          simp
          rfl
        · have e2 : (j != q) = true := by simp [e]
          show upd us q 1 j = nt_i (!((j != q) && un j))
          rw [pk_un e, h1 j hj, e2, Bool.true_and]
      · have hu := fb_ct_upd un false hq
        rw [if_pos huq] at hu
        have he : fb_ct (fun j => (j != q) && un j) n = fb_ct (fun k => if k = q then false else un k) n := fb_ct_cong (fun k _ => by
          by_cases e : k = q
          · simp [e]
          · simp [e])
        rw [he]
        have hu : fb_ct (fun k => if k = q then false else un k) n + 1 = fb_ct un n + 0 := hu
        omega
      · intro j hj1 hj2
        rw [pk_un (by omega)]
        exact h3 j (by omega) hj2
      · rw [List.length_append, h4]
        rfl
      · intro j hj
        by_cases e : j = p
        · subst e
          rw [pk_us]
          congr 1
          unfold pa
          rw [List.getD_eq_getElem?_getD, List.getElem?_append_right (by omega), h4, Nat.sub_self]
          rfl
        · rw [pk_un e, h5 j (by omega)]
          congr 1
          unfold pa
          rw [List.getD_eq_getElem?_getD, List.getD_eq_getElem?_getD, List.getElem?_append_left (by omega)]
      · rw [h6, hdrop]
        show ch ++ (((List.range n).filter un).getD (pd n r p) 0 :: pkL (((List.range n).filter un).erase (((List.range n).filter un).getD (pd n r p) 0)) _) = _
        rw [hget, her, List.append_assoc]
        rfl
    · obtain ⟨rw1, us, un, ch, rfl, h1, h2, h3, h4, h5, h6⟩ := hs
      refine ⟨(rw1, us), ?_, fun p hp => ?_⟩
      · show B_X6_layRank_49 (nI n) (nI n) rw1 us = _
        unfold B_X6_layRank_49
        rw [if_pos (nI_le (Nat.le_refl n) (by omega))]
      · show rw1 p = _
        rw [h5 p hp]
        have he : (pds n r).drop n = [] := List.drop_eq_nil_of_le (by unfold pds; rw [List.length_map, List.length_range]; exact Nat.le_refl n)
        rw [h6, he]
        show nI (pa ch p) = nI (pa (ch ++ []) p)
        rw [List.append_nil]
    · intro j hj
      show (if n - n ≤ j ∧ j < n then 0 else used j) = nt_i false
      rw [if_pos (by omega)]
      rfl
    · have := (fb_ct_all (p := fun _ => true) (n := n)).mpr (fun _ _ => rfl)
      rw [this]
      rfl
    · intro j _ hj
      show (if n - n ≤ j ∧ j < n then nI (pd n r j) else row j) = _
      rw [if_pos (by omega)]
    · intro j hj
      exact absurd hj (Nat.not_lt_zero j)
    · show pr n r = [] ++ pkL ((List.range n).filter (fun _ => true)) (pds n r)
      rw [List.nil_append, List.filter_eq_self.mpr (fun _ _ => rfl)]
      rfl
  obtain ⟨⟨z1, z2⟩, h1, h2⟩ := l2
  refine ⟨z1, z2, ?_, h2⟩
  unfold M_X6_layRank
  rw [ml_let, l1, ml_b]
  show (on_loop (fun (s : Int32 × (Nat → Int32) × (Nat → Int32)) => B_X6_layRank_49 (nI n) s.1 s.2.1 s.2.2) on_F ((0 : Int32), rowi n, usedi n)).bind _ = _
  rw [h1]
  rfl
