/-! ===== the class's search for the least number ===== -/
def pm_X (n : Nat) (A : Nat → Nat → Bool) (k : Nat) (pre : Nat → Nat) (x : Nat) : Prop := ∃ m, pm_P n m ∧ (∀ i, i < k → pa m i = pre i) ∧ x = nt_enc n (pm_arr A m)
theorem pm_X_lt {n : Nat} (hn : n < 8) {A : Nat → Nat → Bool} {k : Nat} {pre : Nat → Nat} {x : Nat} (h : pm_X n A k pre x) : x < 2 ^ nt_np n := by
  obtain ⟨_, _, _, rfl⟩ := h
  exact nt_enc_lt hn _
theorem pm_X_put {n : Nat} {A : Nat → Nat → Bool} {k : Nat} {pre : Nat → Nat} {x y : Nat} (h : pm_X n A (k + 1) (pm_put pre k y) x) : pm_X n A k pre x := by
  obtain ⟨m, h1, h2, h3⟩ := h
  exact ⟨m, h1, fun i hi => by rw [h2 i (by omega), pm_put_ne (by omega)], h3⟩
theorem nt_pw21 : ∀ n, n < 8 → ((1 : Int32) <<< (nI (nt_np n) &&& 31)) - (1 : Int32) = nI (2 ^ nt_np n - 1) := by decide +kernel
theorem nt_least : ∀ (d : Nat) {n k g : Nat} {A : Nat → Nat → Bool} {rows at0 : Nat → Int32} {pre : Nat → Nat}, n < 8 → nt_G A → nt_Rep n A rows → pm_pre n k g pre → n - k < d → (∀ i, i < k → at0 i = nI (pre i)) → ∃ x at', M_X2_leastNumber d (nI k) (nI g) (nI n) rows at0 = some (nI x, at') ∧ (∀ i, i < k → at' i = at0 i) ∧ pm_bs (pm_X n A k pre) (some x)
  | 0, _, _, _, _, _, _, _, _, _, _, _, hd, _ => absurd hd (Nat.not_lt_zero _)
  | d + 1, n, k, g, A, rows, at0, pre, hn, hG, h, hp, hd, hat => by
    by_cases hk : k < n
    · obtain ⟨low, hlow, hl0, hl1, xl, hl2, hl3, hl4⟩ := nt_lowest hn h hp hk hat
      have hnp : 0 < 2 ^ nt_np n := Nat.two_pow_pos _
      have loop : ∃ r, on_loop (fun (s : Int32 × Int32 × Int32 × (Nat → Int32)) => B_X2_leastNumber_42 (M_X2_leastNumber d) (nI k) (nI g) (nI low) (nI n) rows s.1 s.2.1 s.2.2.1 s.2.2.2) on_F (nI (2 ^ nt_np n - 1), (0 : Int32), (0 : Int32), at0) = some r ∧ ∃ x at', r = (nI x, at') ∧ (∀ i, i < k → at' i = at0 i) ∧ pm_bs (pm_X n A k pre) (some x) := by
        refine ml_invF (fun i s => ∃ x T at', s = (nI x, nI T, nI i, at') ∧ T < 128 ∧ x < 2 ^ nt_np n ∧ (∀ i, i < k → at' i = at0 i) ∧ (∀ y, T.testBit y = true → y < n ∧ g.testBit y = false ∧ pm_e (fun i => A (pre i) y) k = low) ∧ (∀ u, u < i → g.testBit u = false → pm_e (fun i => A (pre i) u) k = low → ∃ y, T.testBit y = true ∧ (y = u ∨ pm_tw n A u y)) ∧ ((T = 0 ∧ x = 2 ^ nt_np n - 1) ∨ pm_X n A k pre x) ∧ ∀ y, T.testBit y = true → ∀ z, pm_X n A (k + 1) (pm_put pre k y) z → x ≤ z) _ n (by omega) (fun i s hi hs => ?_) (fun s hs => ?_) ⟨2 ^ nt_np n - 1, 0, at0, rfl, by decide, by omega, fun _ _ => rfl, fun y hy => by simp at hy, fun u hu => absurd hu (Nat.not_lt_zero u), Or.inl ⟨rfl, rfl⟩, fun y hy => by simp at hy⟩
        · obtain ⟨x, T, at1, rfl, i1, i2, i3, i4, i5, i6, i7⟩ := hs
          left
          have hx := nt_num_lt hn i2
          cases hb : g.testBit i with
          | true =>
            refine ⟨(nI x, nI T, nI (i + 1), at1), ?_, x, T, at1, rfl, i1, i2, i3, i4, fun u hu hf hc => ?_, i6, i7⟩
            · show B_X2_leastNumber_42 (M_X2_leastNumber d) (nI k) (nI g) (nI low) (nI n) rows (nI x) (nI T) (nI i) at1 = _
              unfold B_X2_leastNumber_42
              rw [if_neg (nI_ge hi (by omega)), nt_shr g hp.2.1 i (by omega), hb, if_neg (by decide), if_pos rfl, ml_let, nI_1]
            · by_cases e : u = i
              · rw [e, hb] at hf
                exact absurd hf (by decide)
              · exact i5 u (by omega) hf hc
          | false =>
            have hat1 : ∀ j, j < k → at1 j = nI (pre j) := fun j hj => (i3 j hj).trans (hat j hj)
            have hcl : pm_e (fun j => A (pre j) i) k < 128 := Nat.lt_of_lt_of_le (pm_e_lt (fun j => A (pre j) i) k) (show 2 ^ k ≤ 2 ^ 7 from Nat.pow_le_pow_right (by decide) (by omega))
            by_cases c : pm_e (fun j => A (pre j) i) k = low
            · obtain ⟨b, t1, t2⟩ := nt_hasTwin (T := T) hn h hi i1
              cases b with
              | true =>
                refine ⟨(nI x, nI T, nI (i + 1), at1), ?_, x, T, at1, rfl, i1, i2, i3, i4, fun u hu hf hc => ?_, i6, i7⟩
                · show B_X2_leastNumber_42 (M_X2_leastNumber d) (nI k) (nI g) (nI low) (nI n) rows (nI x) (nI T) (nI i) at1 = _
                  unfold B_X2_leastNumber_42
                  rw [if_neg (nI_ge hi (by omega)), nt_shr g hp.2.1 i (by omega), hb, if_pos nt_i0, if_neg (by decide), nt_column hn h hp.1 hi hp.2.2.1 hat1, ml_b, c, if_pos rfl, t1, ml_b, if_neg (by decide), ml_let, nI_1]
                · by_cases e : u = i
                  · obtain ⟨y, y1, y2, y3⟩ := t2 rfl
                    exact ⟨y, y2, Or.inr (by rw [e]; exact y3)⟩
                  · exact i5 u (by omega) hf hc
              | false =>
                have hp2 := pm_pre_put hn hp hk hi hb
                obtain ⟨z, at2, r1, r2, r3⟩ := nt_least d (at0 := upd at1 k (nI i)) hn hG h hp2 (by omega) (fun j hj => by
                  by_cases e : j = k
                  · rw [e, pm_put_at]
                    exact if_pos rfl
                  · rw [pm_put_ne e]
                    exact (if_neg e).trans (hat1 j (by omega)))
                have hz := nt_num_lt hn (pm_X_lt hn r3.1)
                refine ⟨(nI (if z < x then z else x), nI (T ||| 2 ^ i), nI (i + 1), at2), ?_, _, _, at2, rfl, ?_, ?_, fun j hj => ?_, fun y hy => ?_, fun u hu hf hc => ?_, ?_, fun y hy w hw => ?_⟩
                · show B_X2_leastNumber_42 (M_X2_leastNumber d) (nI k) (nI g) (nI low) (nI n) rows (nI x) (nI T) (nI i) at1 = _
                  unfold B_X2_leastNumber_42
                  rw [if_neg (nI_ge hi (by omega)), nt_shr g hp.2.1 i (by omega), hb, if_pos nt_i0, if_neg (by decide), nt_column hn h hp.1 hi hp.2.2.1 hat1, ml_b, c, if_pos rfl, t1, ml_b, if_pos nt_i0, ml_let, ml_gi (by omega) (by omega), nI_clamp (by omega), nI_1, nt_setb g hp.2.1 i (by omega), nt_setb T i1 i (by omega), r1, ml_b, ml_let, ml_let, nI_1]
                  by_cases cc : z < x
                  · rw [if_pos (nI_lt cc (by omega)), if_pos cc]
                  · rw [if_neg (nI_nlt (by omega) (by omega)), if_neg cc]
                · exact Nat.or_lt_two_pow (n := 7) i1 (Nat.pow_lt_pow_right (by decide) (by omega))
                · have := pm_X_lt hn r3.1
                  split <;> assumption
                · rw [r2 j (by omega), ← i3 j hj]
                  exact if_neg (by omega)
                · rw [fb_bit_set, Bool.or_eq_true, decide_eq_true_iff] at hy
                  rcases hy with hy | hy
                  · exact i4 y hy
                  · rw [hy]
                    exact ⟨hi, hb, c⟩
                · by_cases e : u = i
                  · exact ⟨u, by rw [fb_bit_set, e]; simp, Or.inl rfl⟩
                  · obtain ⟨y, y1, y2⟩ := i5 u (by omega) hf hc
                    exact ⟨y, by rw [fb_bit_set, y1]; rfl, y2⟩
                · right
                  by_cases cc : z < x
                  · rw [if_pos cc]
                    exact pm_X_put r3.1
                  · rw [if_neg cc]
                    rcases i6 with i6 | i6
                    · have i8 := pm_X_lt hn r3.1
                      rw [show x = z by omega]
                      exact pm_X_put r3.1
                    · exact i6
                · rw [fb_bit_set, Bool.or_eq_true, decide_eq_true_iff] at hy
                  rcases hy with hy | hy
                  · have := i7 y hy w hw
                    split <;> omega
                  · rw [hy] at hw
                    have := r3.2 w hw
                    split <;> omega
            · refine ⟨(nI x, nI T, nI (i + 1), at1), ?_, x, T, at1, rfl, i1, i2, i3, i4, fun u hu hf hc => ?_, i6, i7⟩
              · show B_X2_leastNumber_42 (M_X2_leastNumber d) (nI k) (nI g) (nI low) (nI n) rows (nI x) (nI T) (nI i) at1 = _
                unfold B_X2_leastNumber_42
                rw [if_neg (nI_ge hi (by omega)), nt_shr g hp.2.1 i (by omega), hb, if_pos nt_i0, if_neg (by decide), nt_column hn h hp.1 hi hp.2.2.1 hat1, ml_b, if_neg (fun z => c ((nI_eq (by omega) (by omega)).mp z)), ml_let, nI_1]
              · by_cases e : u = i
                · rw [e] at hc
                  exact absurd hc c
                · exact i5 u (by omega) hf hc
        · obtain ⟨x, T, at1, rfl, i1, i2, i3, i4, i5, i6, i7⟩ := hs
          obtain ⟨y, y1, _⟩ := i5 xl hl2 hl3 hl4
          have hT : T ≠ 0 := fun e => by rw [e] at y1; simp at y1
          have hX : pm_X n A k pre x := i6.resolve_left (fun z => hT z.1)
          obtain ⟨yn, yf, yc⟩ := i4 y y1
          have hnot : ∀ {m : List Nat} {v : Nat}, (∀ i, i < k → pa m i = pre i) → v < n → g.testBit v = false → ∀ j, j < k → pa m j ≠ v := fun hm hv hf j hj e => by
            have := (hp.2.2.2.2 _ hv).mpr ⟨j, hj, (hm j hj).symm.trans e⟩
            rw [hf] at this
            exact absurd this (by decide)
          have hsw : ∀ {m : List Nat} {u v : Nat}, pm_P n m → (∀ i, i < k → pa m i = pre i) → pa m k = u → v < n → g.testBit v = false → pm_X n A (k + 1) (pm_put pre k v) (nt_enc n (pm_arr A (pm_sm n u v m))) := by
            intro m u v hm hm2 hu hv hf
            have hun : u < n := hu ▸ pm_lt hm hk
            refine ⟨_, pm_sm_P hm hun hv, fun j hj => ?_, rfl⟩
            rw [pm_sm_at (by omega)]
            by_cases e : j = k
            · rw [e, hu, pm_put_at]
              exact if_pos rfl
            · rw [pm_put_ne e, ← hm2 j (by omega)]
              unfold pm_sp
              rw [if_neg (fun z => e (pm_inj hm (by omega) hk (z.trans hu.symm))), if_neg (hnot hm2 hv hf j (by omega))]
          refine ⟨(nI x, at1), ?_, x, at1, rfl, i3, hX, fun z hz => ?_⟩
          · show B_X2_leastNumber_42 (M_X2_leastNumber d) (nI k) (nI g) (nI low) (nI n) rows (nI x) (nI T) (nI n) at1 = _
            unfold B_X2_leastNumber_42
            rw [if_pos (nI_le (Nat.le_refl _) (by omega))]
          · obtain ⟨m, hm, hm2, rfl⟩ := hz
            have hu := pm_lt hm hk
            have huf : g.testBit (pa m k) = false := by
              cases hb : g.testBit (pa m k) with
              | false => rfl
              | true =>
                obtain ⟨j, j1, j2⟩ := (hp.2.2.2.2 _ hu).mp hb
                have := pm_inj hm (show j < n by omega) hk ((hm2 j j1).trans j2)
                omega
            by_cases c : pm_e (fun i => A (pre i) (pa m k)) k = low
            · obtain ⟨v, v1, v2⟩ := i5 (pa m k) hu huf c
              obtain ⟨vn, vf, vc⟩ := i4 v v1
              rcases v2 with v2 | v2
              · refine i7 v v1 _ ⟨m, hm, fun j hj => ?_, rfl⟩
                by_cases e : j = k
                · rw [e, pm_put_at, v2]
                · rw [pm_put_ne e, hm2 j (by omega)]
              · rw [← pm_sm_tw hG v2 hm]
                exact i7 v v1 _ (hsw hm hm2 rfl vn vf)
            · have h1 := hl1 (pa m k) hu huf
              have h2 := i7 y y1 _ (hsw hm hm2 rfl yn yf)
              have h3 := pm_sm_less (A := A) (y := y) hn hm hk rfl (hnot hm2 yn yf) (by
                have e1 : ∀ v, pm_e (fun i => A (pa m i) v) k = pm_e (fun i => A (pre i) v) k := fun v => pm_e_cong (fun j hj => by rw [hm2 j hj])
                rw [e1, e1, yc]
                omega)
              omega
      obtain ⟨_, h1, x, at1, rfl, h2, h3⟩ := loop
      refine ⟨x, at1, ?_, h2, h3⟩
      rw [M_X2_leastNumber]
      show (if nI k < nI n then _ else _) = _
      rw [if_pos (nI_lt hk (by omega)), hlow, ml_b, nt_pairsOf n hn, ml_b, ml_let, nt_pw21 n hn, h1, ml_b]
    · have hkn : k = n := by have := hp.1; omega
      subst hkn
      have hm := pm_pre_full hp
      refine ⟨nt_enc k (fun p q => A (pre p) (pre q)), at0, ?_, fun _ _ => rfl, ⟨_, hm, fun i hi => pm_mk_at hi, nt_enc_congr (fun p q hpq hq => ?_)⟩, ?_⟩
      · rw [M_X2_leastNumber]
        show (if nI k < nI k then _ else _) = _
        rw [if_neg (nI_nlt (Nat.le_refl _) (by omega)), nt_asGiven hn h hp.2.2.1 hat, ml_b]
      · unfold pm_arr
        rw [pm_mk_at (by omega), pm_mk_at hq]
      · rintro z ⟨m, h1, h2, rfl⟩
        refine Nat.le_of_eq (nt_enc_congr (fun p q hpq hq => ?_))
        unfold pm_arr
        rw [h2 p (by omega), h2 q hq]
theorem pm_pre1 {n p : Nat} (hn : n < 8) (hp : p < n) (pre : Nat → Nat) : pm_pre n 1 (2 ^ p) (pm_put pre 0 p) := by
  refine ⟨by omega, (show 2 ^ p < 2 ^ 7 from Nat.pow_lt_pow_right (by decide) (by omega)), fun i hi => ?_, fun i j hi hj _ => by omega, fun x hx => ?_⟩
  · rw [show i = 0 by omega, pm_put_at]; exact hp
  · rw [Nat.testBit_two_pow, decide_eq_true_iff]
    constructor
    · intro e
      exact ⟨0, by omega, by rw [pm_put_at]; exact e⟩
    · rintro ⟨i, h1, h2⟩
      rw [show i = 0 by omega, pm_put_at] at h2
      exact h2
def pm_KC (n : Nat) (A : Nat → Nat → Bool) (p x : Nat) : Prop := ∃ m, pm_P n m ∧ pa m 0 < p ∧ x = nt_enc n (pm_arr (pm_al n A (pa m 0)) m)
theorem nt_kindOfClass {n : Nat} {A : Nat → Nat → Bool} {rows at0 : Nat → Int32} (hn : n < 8) (hn3 : 3 ≤ n) (hG : nt_G A) (h : nt_Rep n A rows) : ∃ x at' rows', M_X2_kindOfClass at0 (nI n) rows = some (nI x, at', rows') ∧ pm_least n A x := by
  have hnp : 0 < 2 ^ nt_np n := Nat.two_pow_pos _
  have hup : ∀ B : Nat → Nat → Bool, nt_enc n B < 2 ^ nt_np n := nt_enc_lt hn
  have loop : ∃ r, on_loop (fun (s : Int32 × Int32 × (Nat → Int32) × (Nat → Int32)) => B_X2_kindOfClass_14 (nI n) s.1 s.2.1 s.2.2.1 s.2.2.2) on_F (nI (2 ^ nt_np n - 1), (0 : Int32), at0, rows) = some r ∧ ∃ x at' rows', r = (nI x, at', rows') ∧ pm_least n A x := by
    refine ml_invF (fun i s => ∃ x at' rows' B, s = (nI x, nI i, at', rows') ∧ nt_G B ∧ (∀ q, q < n → nt_E n (pm_al n B q) (pm_al n A q)) ∧ nt_Rep n B rows' ∧ x < 2 ^ nt_np n ∧ ((i = 0 ∧ x = 2 ^ nt_np n - 1) ∨ pm_KC n A i x) ∧ ∀ y, pm_KC n A i y → x ≤ y) _ n (by omega) (fun i s hi hs => ?_) (fun s hs => ?_) ⟨2 ^ nt_np n - 1, at0, rows, A, rfl, hG, fun _ _ _ _ _ _ => rfl, h, by omega, Or.inl ⟨rfl, rfl⟩, fun y hy => ?_⟩
    · obtain ⟨x, at1, rows1, B, rfl, hB, hal, hr, hx, hv, hlow⟩ := hs
      left
      have hx2 := nt_num_lt hn hx
      obtain ⟨rows2, l1, l2⟩ := nt_leaveAlone hn hi hr
      have l3 : nt_Rep n (pm_al n A i) rows2 := l2.congr (fun a b ha hb => hal i hi a b ha hb)
      obtain ⟨z, at2, z1, _, z3⟩ := nt_least 9 (at0 := upd at1 0 (nI i)) (pre := pm_put (fun _ => 0) 0 i) hn (pm_al_G hG i) l3 (pm_pre1 hn hi _) (by omega) (fun j hj => by
        rw [show j = 0 by omega, pm_put_at]
        exact if_pos rfl)
      have hz := nt_num_lt hn (pm_X_lt hn z3.1)
      have hKX : ∀ y, pm_X n (pm_al n A i) 1 (pm_put (fun _ => 0) 0 i) y ↔ ∃ m, pm_P n m ∧ pa m 0 = i ∧ y = nt_enc n (pm_arr (pm_al n A (pa m 0)) m) := fun y => by
        constructor
        · rintro ⟨m, m1, m2, m3⟩
          have e : pa m 0 = i := by rw [m2 0 (by omega), pm_put_at]
          exact ⟨m, m1, e, by rw [e]; exact m3⟩
        · rintro ⟨m, m1, m2, m3⟩
          exact ⟨m, m1, fun j hj => by rw [show j = 0 by omega, pm_put_at]; exact m2, by rw [m2] at m3; exact m3⟩
      have hzK : pm_KC n A (i + 1) z := by
        obtain ⟨m, m1, m2, m3⟩ := (hKX z).mp z3.1
        exact ⟨m, m1, by omega, m3⟩
      refine ⟨(nI (if z < x then z else x), nI (i + 1), at2, rows2), ?_, _, at2, rows2, pm_al n A i, rfl, pm_al_G hG i, fun q hq => pm_al_al hq, l3, ?_, ?_, fun y hy => ?_⟩
      · show B_X2_kindOfClass_14 (nI n) (nI x) (nI i) at1 rows1 = _
        unfold B_X2_kindOfClass_14
        rw [if_neg (nI_ge hi (by omega)), l1, ml_b, nt_n0, ml_gi (by omega) (by omega), nI_clamp (by omega), nt_sh1 i (by omega), nt_n1, z1, ml_b, ml_let, ml_let, ← nt_n1, nI_1]
        by_cases cc : z < x
        · rw [if_pos (nI_lt cc (by omega)), if_pos cc]
        · rw [if_neg (nI_nlt (by omega) (by omega)), if_neg cc]
      · have := pm_X_lt hn z3.1
        split <;> assumption
      · right
        by_cases cc : z < x
        · rw [if_pos cc]
          exact hzK
        · rw [if_neg cc]
          rcases hv with hv | hv
          · have i8 := pm_X_lt hn z3.1
            rw [show x = z by omega]
            exact hzK
          · obtain ⟨m, m1, m2, m3⟩ := hv
            exact ⟨m, m1, by omega, m3⟩
      · obtain ⟨m, m1, m2, m3⟩ := hy
        by_cases e : pa m 0 = i
        · have := z3.2 y ((hKX y).mpr ⟨m, m1, e, m3⟩)
          split <;> omega
        · have := hlow y ⟨m, m1, by omega, m3⟩
          split <;> omega
    · obtain ⟨x, at1, rows1, B, rfl, hB, hal, hr, hx, hv, hlow⟩ := hs
      refine ⟨(nI x, at1, rows1), ?_, x, at1, rows1, rfl, ?_, fun y hy => ?_⟩
      · show B_X2_kindOfClass_14 (nI n) (nI x) (nI n) at1 rows1 = _
        unfold B_X2_kindOfClass_14
        rw [if_pos (nI_le (Nat.le_refl _) (by omega))]
      · rcases hv with hv | ⟨m, m1, m2, m3⟩
        · omega
        · exact ⟨m, m1, m3⟩
      · obtain ⟨m, m1, m3⟩ := hy
        exact hlow y ⟨m, m1, pm_lt m1 (by omega), m3⟩
    · obtain ⟨m, m1, m2, m3⟩ := hy
      omega
  obtain ⟨_, h1, x, at1, rows1, rfl, h2⟩ := loop
  refine ⟨x, at1, rows1, ?_, h2⟩
  unfold M_X2_kindOfClass
  rw [nt_pairsOf n hn, ml_b, ml_let, nt_pw21 n hn, h1, ml_b]
