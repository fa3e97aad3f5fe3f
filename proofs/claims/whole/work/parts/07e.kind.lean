/-! ===== the least of the numbers that nets with node 0 alone come to ===== -/
def pm_K (n : Nat) (A : Nat → Nat → Bool) (x : Nat) : Prop := ∃ m, pm_P n m ∧ x = nt_enc n (pm_arr (pm_al n A (pa m 0)) m)
def pm_bs (C : Nat → Prop) : Option Nat → Prop
  | none => ∀ x, ¬ C x
  | some b => C b ∧ ∀ x, C x → b ≤ x
def pm_least (n : Nat) (A : Nat → Nat → Bool) (x : Nat) : Prop := pm_bs (pm_K n A) (some x)
theorem pm_least_one {n : Nat} {A : Nat → Nat → Bool} {x y : Nat} (hx : pm_least n A x) (hy : pm_least n A y) : x = y := Nat.le_antisymm (hx.2 _ hy.1) (hy.2 _ hx.1)
theorem pm_K_E {n : Nat} (hn0 : 0 < n) {A B : Nat → Nat → Bool} (h : nt_E n A B) {x : Nat} (hx : pm_K n A x) : pm_K n B x := by
  obtain ⟨m, hm, rfl⟩ := hx
  exact ⟨m, hm, (pm_arr_E (pm_al_E h (pm_lt hm hn0)) hm).enc⟩
theorem pm_least_E {n : Nat} (hn0 : 0 < n) {A B : Nat → Nat → Bool} (h : nt_E n A B) {x : Nat} (hx : pm_least n A x) : pm_least n B x := ⟨pm_K_E hn0 h hx.1, fun y hy => hx.2 y (pm_K_E hn0 h.symm hy)⟩
theorem pm_least_lt {n : Nat} (hn : n < 8) {A : Nat → Nat → Bool} {x : Nat} (hx : pm_least n A x) : x < 2 ^ nt_np n := by
  obtain ⟨⟨m, _, rfl⟩, _⟩ := hx
  exact nt_enc_lt hn _
theorem pm_bs_no {C C' : Nat → Prop} {b : Option Nat} (h : pm_bs C b) (e : ∀ x, C' x ↔ C x) : pm_bs C' b := by
  cases b with
  | none => exact fun x hx => h x ((e x).mp hx)
  | some b => exact ⟨(e b).mpr h.1, fun x hx => h.2 x ((e x).mp hx)⟩
theorem pm_bs_add0 {C C' : Nat → Prop} {v : Nat} (h : pm_bs C none) (e : ∀ x, C' x ↔ (C x ∨ x = v)) : pm_bs C' (some v) :=
  ⟨(e v).mpr (Or.inr rfl), fun x hx => by rcases (e x).mp hx with h1 | h1; exact absurd h1 (h x); omega⟩
theorem pm_bs_add1 {C C' : Nat → Prop} {b v : Nat} (h : pm_bs C (some b)) (e : ∀ x, C' x ↔ (C x ∨ x = v)) : pm_bs C' (some (if b ≤ v then b else v)) := by
  by_cases hb : b ≤ v
  · rw [if_pos hb]
    exact ⟨(e b).mpr (Or.inl h.1), fun x hx => by rcases (e x).mp hx with h1 | h1; exact h.2 x h1; omega⟩
  · rw [if_neg hb]
    exact ⟨(e v).mpr (Or.inr rfl), fun x hx => by rcases (e x).mp hx with h1 | h1; have := h.2 x h1; omega; omega⟩
def pm_C (n : Nat) (A : Nat → Nat → Bool) (p r x : Nat) : Prop := ∃ p' r', (p' < p ∨ (p' = p ∧ r' < r)) ∧ p' < n ∧ r' < pm_f n ∧ pa (pr n r') p' = 0 ∧ x = nt_enc n (pm_ren (pm_al n A p') (pr n r'))
theorem pm_C_step {n : Nat} {A : Nat → Nat → Bool} {p r : Nat} (hp : p < n) (hr : r < pm_f n) (h0 : pa (pr n r) p = 0) (x : Nat) : pm_C n A p (r + 1) x ↔ (pm_C n A p r x ∨ x = nt_enc n (pm_ren (pm_al n A p) (pr n r))) := by
  constructor
  · rintro ⟨p', r', h1, h2, h3, h4, h5⟩
    by_cases e : p' = p ∧ r' = r
    · obtain ⟨rfl, rfl⟩ := e
      exact Or.inr h5
    · exact Or.inl ⟨p', r', by omega, h2, h3, h4, h5⟩
  · rintro (⟨p', r', h1, h2, h3, h4, h5⟩ | h)
    · exact ⟨p', r', by omega, h2, h3, h4, h5⟩
    · exact ⟨p, r, by omega, hp, hr, h0, h⟩
theorem pm_C_skip {n : Nat} {A : Nat → Nat → Bool} {p r : Nat} (h0 : ¬ pa (pr n r) p = 0) (x : Nat) : pm_C n A p (r + 1) x ↔ pm_C n A p r x := by
  constructor
  · rintro ⟨p', r', h1, h2, h3, h4, h5⟩
    by_cases e : p' = p ∧ r' = r
    · obtain ⟨rfl, rfl⟩ := e
      exact absurd h4 h0
    · exact ⟨p', r', by omega, h2, h3, h4, h5⟩
  · rintro ⟨p', r', h1, h2, h3, h4, h5⟩
    exact ⟨p', r', by omega, h2, h3, h4, h5⟩
theorem pm_C_row {n : Nat} {A : Nat → Nat → Bool} {p : Nat} (x : Nat) : pm_C n A (p + 1) 0 x ↔ pm_C n A p (pm_f n) x := by
  constructor
  · rintro ⟨p', r', h1, h2, h3, h4, h5⟩
    exact ⟨p', r', by omega, h2, h3, h4, h5⟩
  · rintro ⟨p', r', h1, h2, h3, h4, h5⟩
    exact ⟨p', r', by omega, h2, h3, h4, h5⟩
theorem pm_C_K {n : Nat} (hn : n < 8) (hn3 : 3 ≤ n) {A : Nat → Nat → Bool} (x : Nat) : pm_K n A x ↔ pm_C n A n 0 x := by
  constructor
  · rintro ⟨m, hm, rfl⟩
    obtain ⟨r, h1, h2⟩ := pr_ex hn hn3 (pm_v_P hm)
    refine ⟨pa m 0, r, Or.inl (pm_lt hm (by omega)), pm_lt hm (by omega), h1, ?_, ?_⟩
    · rw [h2]
      exact pm_vl hm (by omega)
    · rw [h2, (pm_ren_arr (n := n) (pm_al n A (pa m 0)) (pm_v n m)).enc, pm_vv hm]
  · rintro ⟨p, r, _, h2, h3, h4, h5⟩
    have hP := pr_P hn hn3 h3
    refine ⟨pm_v n (pr n r), pm_v_P hP, ?_⟩
    have e : pa (pm_v n (pr n r)) 0 = p := by
      rw [← h4]
      exact pm_vl hP h2
    rw [h5, e, (pm_ren_arr (n := n) (pm_al n A p) (pr n r)).enc]
theorem pm_C_lt {n : Nat} (hn : n < 8) {A : Nat → Nat → Bool} {p r x : Nat} (h : pm_C n A p r x) : x < 2 ^ nt_np n := by
  obtain ⟨_, _, _, _, _, _, rfl⟩ := h
  exact nt_enc_lt hn _
theorem pm_id_K {n : Nat} {A : Nat → Nat → Bool} : pm_K n A (nt_enc n (pm_arr (pm_al n A (pa (pm_id n) 0)) (pm_id n))) := ⟨pm_id n, pm_id_P n, rfl⟩
theorem nt_kindOf {n a : Nat} (hn : n < 8) (hn3 : 3 ≤ n) (ha : a < 2 ^ nt_np n) (row used : Nat → Int32) : ∃ x row' used', M_X6_kindOf (nI n) (nI a) row used = some (nI x, row', used') ∧ pm_least n (nt_adj n a) x := by
  have hf := pm_f_le n hn
  have inner : ∀ p, p < n → ∀ b row used, pm_bs (pm_C n (nt_adj n a) p 0) b → ∃ t, on_loop (fun (s : Int32 × Int32 × (Nat → Int32) × (Nat → Int32)) => B_X6_kindOf_24 (nI n) (nI p) (nI (nt_enc n (pm_al n (nt_adj n a) p))) s.1 s.2.1 s.2.2.1 s.2.2.2) on_F (nt_o b, (0 : Int32), row, used) = some t ∧ ∃ b' row' used', t = (nt_o b', row', used') ∧ pm_bs (pm_C n (nt_adj n a) (p + 1) 0) b' := by
    intro p hp b row used hb
    refine ml_invF (fun r s => ∃ b' row' used', s = (nt_o b', nI r, row', used') ∧ pm_bs (pm_C n (nt_adj n a) p r) b') _ (pm_f n) (by omega) (fun r s hr hs => ?_) (fun s hs => ?_) ⟨b, row, used, rfl, hb⟩
    · obtain ⟨b, rw1, us1, rfl, hb⟩ := hs
      left
      obtain ⟨rw2, us2, h1, h2⟩ := nt_layRank (r := r) hn (by omega) rw1 us1
      have hP := pr_P hn hn3 hr
      have hre := nt_renumbered (a := nt_enc n (pm_al n (nt_adj n a) p)) hn hP h2
      have hE : nt_enc n (pm_ren (nt_adj n (nt_enc n (pm_al n (nt_adj n a) p))) (pr n r)) = nt_enc n (pm_ren (pm_al n (nt_adj n a) p) (pr n r)) := by
        refine nt_enc_congr (fun u v hu hv => ?_)
        exact nt_E_enc hn (pm_al_G (nt_adj_G n a) p) _ _ (pm_idx_lt hP (by omega)) (pm_idx_lt hP hv)
      rw [hE] at hre
      have hx := nt_num_lt hn (nt_enc_lt hn (pm_ren (pm_al n (nt_adj n a) p) (pr n r)))
      have hpl := pm_lt hP hp
      by_cases e : pa (pr n r) p = 0
      · have hbody : ∀ v3 y, (if v3 < (0 : Int32) then nI (nt_enc n (pm_ren (pm_al n (nt_adj n a) p) (pr n r))) else if v3 ≤ nI (nt_enc n (pm_ren (pm_al n (nt_adj n a) p) (pr n r))) then v3 else nI (nt_enc n (pm_ren (pm_al n (nt_adj n a) p) (pr n r)))) = y → B_X6_kindOf_24 (nI n) (nI p) (nI (nt_enc n (pm_al n (nt_adj n a) p))) v3 (nI r) rw1 us1 = some (Sum.inl (y, nI (r + 1), rw2, us2)) := by
          intro v3 y hy
          unfold B_X6_kindOf_24
          rw [nt_orders n hn (by omega), ml_b, if_neg (nI_ge hr (by omega)), h1, ml_b, ml_gi (by omega) (by omega), nI_clamp (by omega)]
          show (if rw2 p = 0 then _ else _) = _
          rw [h2 p hp, e, nI_0, if_pos rfl]
          show (M_X6_renumbered (nI n) _ rw2).bind _ = _
          rw [hre, ml_b]
          by_cases c1 : v3 < 0
          · rw [if_pos c1] at hy
            rw [if_pos c1, ml_let, nI_1, hy]
          · rw [if_neg c1] at hy
            rw [if_neg c1]
            by_cases c2 : v3 ≤ nI (nt_enc n (pm_ren (pm_al n (nt_adj n a) p) (pr n r)))
            · rw [if_pos c2] at hy
              rw [if_pos c2, ml_let, nI_1, hy]
            · rw [if_neg c2] at hy
              rw [if_neg c2, ml_let, nI_1, hy]
        cases b with
        | none =>
          exact ⟨_, hbody (-6) _ (if_pos (by decide)), some _, _, _, rfl, pm_bs_add0 hb (pm_C_step hp hr e)⟩
        | some b =>
          have hbl := nt_num_lt hn (pm_C_lt hn hb.1)
          refine ⟨_, hbody (nI b) (nI (if b ≤ nt_enc n (pm_ren (pm_al n (nt_adj n a) p) (pr n r)) then b else nt_enc n (pm_ren (pm_al n (nt_adj n a) p) (pr n r)))) ?_, some _, _, _, rfl, pm_bs_add1 hb (pm_C_step hp hr e)⟩
          rw [if_neg (show ¬ nI b < (0 : Int32) by rw [nt_n0]; exact nI_nlt (Nat.zero_le _) (by omega))]
          by_cases c : b ≤ nt_enc n (pm_ren (pm_al n (nt_adj n a) p) (pr n r))
          · rw [if_pos (nI_le c (by omega)), if_pos c]
          · rw [if_neg (nI_ge (by omega) (by omega)), if_neg c]
      · refine ⟨(nt_o b, nI (r + 1), rw2, us2), ?_, b, rw2, us2, rfl, pm_bs_no hb (pm_C_skip e)⟩
        show B_X6_kindOf_24 (nI n) (nI p) (nI (nt_enc n (pm_al n (nt_adj n a) p))) (nt_o b) (nI r) rw1 us1 = _
        unfold B_X6_kindOf_24
        rw [nt_orders n hn (by omega), ml_b, if_neg (nI_ge hr (by omega)), h1, ml_b, ml_gi (by omega) (by omega), nI_clamp (by omega)]
        show (if rw2 p = 0 then _ else _) = _
        rw [h2 p hp, if_neg (by rw [nt_n0]; exact fun z => e ((nI_eq (by omega) (by omega)).mp z)), ml_let, nI_1]
    · obtain ⟨b, rw1, us1, rfl, hb⟩ := hs
      refine ⟨(nt_o b, rw1, us1), ?_, b, rw1, us1, rfl, pm_bs_no hb pm_C_row⟩
      show B_X6_kindOf_24 (nI n) (nI p) (nI (nt_enc n (pm_al n (nt_adj n a) p))) (nt_o b) (nI (pm_f n)) rw1 us1 = _
      unfold B_X6_kindOf_24
      rw [nt_orders n hn (by omega), ml_b, if_pos (nI_le (Nat.le_refl _) (by omega))]
  have outer : ∃ t, on_loop (fun (s : Int32 × Int32 × (Nat → Int32) × (Nat → Int32)) => B_X6_kindOf_6 (nI n) (nI a) s.1 s.2.1 s.2.2.1 s.2.2.2) on_F ((-6 : Int32), (0 : Int32), row, used) = some t ∧ ∃ b' row' used', t = (nt_o b', row', used') ∧ pm_bs (pm_C n (nt_adj n a) n 0) b' := by
    refine ml_invF (fun p s => ∃ b' row' used', s = (nt_o b', nI p, row', used') ∧ pm_bs (pm_C n (nt_adj n a) p 0) b') _ n (by omega) (fun p s hp hs => ?_) (fun s hs => ?_) ⟨none, row, used, rfl, fun x hx => ?_⟩
    · obtain ⟨b, rw1, us1, rfl, hb⟩ := hs
      left
      obtain ⟨_, h1, b2, rw2, us2, rfl, hb2⟩ := inner p hp b rw1 us1 hb
      refine ⟨(nt_o b2, nI (p + 1), rw2, us2), ?_, b2, rw2, us2, rfl, hb2⟩
      show B_X6_kindOf_6 (nI n) (nI a) (nt_o b) (nI p) rw1 us1 = _
      unfold B_X6_kindOf_6
      rw [if_neg (nI_ge hp (by omega)), nt_alone_E hn ha hp (fun _ _ _ _ => rfl), ml_b, h1, ml_b, ml_let, nI_1]
    · obtain ⟨b, rw1, us1, rfl, hb⟩ := hs
      refine ⟨(nt_o b, rw1, us1), ?_, b, rw1, us1, rfl, hb⟩
      show B_X6_kindOf_6 (nI n) (nI a) (nt_o b) (nI n) rw1 us1 = _
      unfold B_X6_kindOf_6
      rw [if_pos (nI_le (Nat.le_refl _) (by omega))]
    · obtain ⟨p', r', h1, _⟩ := hx
      omega
  obtain ⟨_, h1, b, rw1, us1, rfl, hb⟩ := outer
  have hb2 := pm_bs_no hb (pm_C_K hn hn3)
  cases b with
  | none => exact absurd pm_id_K (hb2 _)
  | some x =>
    refine ⟨x, rw1, us1, ?_, hb2⟩
    unfold M_X6_kindOf
    rw [h1, ml_b]
    rfl
