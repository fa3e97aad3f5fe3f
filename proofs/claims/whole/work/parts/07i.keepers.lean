/-! ===== how many renumberings keep a net, and its class ===== -/
theorem nt_brings {n : Nat} {A B : Nat → Nat → Bool} {ra rb at0 : Nat → Int32} (hn : n < 8) (hGA : nt_G A) (hGB : nt_G B) (ha : nt_Rep n A ra) (hb : nt_Rep n B rb) : ∃ b at', M_X2_brings at0 (nI n) ra (nI n) rb = some (nt_i b, at') ∧ (b = true ↔ ∃ m, pm_P n m ∧ nt_E n A (pm_arr B m)) := by
  obtain ⟨b, at1, h1, _, h3⟩ := nt_canGoOn 9 (k := 0) (g := 0) (at0 := at0) (pre := fun _ => 0) hn hGA hGB ha hb ⟨Nat.zero_le _, by decide, fun i hi => absurd hi (Nat.not_lt_zero i), fun i j hi => absurd hi (Nat.not_lt_zero i), fun x _ => ⟨fun z => by simp at z, fun ⟨i, hi, _⟩ => absurd hi (Nat.not_lt_zero i)⟩⟩ (by omega) (fun i hi => absurd hi (Nat.not_lt_zero i)) (fun i j hi => absurd hi (Nat.not_lt_zero i))
  refine ⟨b, at1, ?_, h3.trans ⟨fun ⟨m, m1, _, m3⟩ => ⟨m, m1, m3⟩, fun ⟨m, m1, m3⟩ => ⟨m, m1, fun i hi => absurd hi (Nat.not_lt_zero i), m3⟩⟩⟩
  unfold M_X2_brings
  rw [nt_n0, h1, ml_b, ml_gd (nt_isb b)]
/-- renumberings that keep a net and the first k nodes -/
def pm_st (n : Nat) (A : Nat → Nat → Bool) (k : Nat) (m : List Nat) : Bool := pm_ib n A A m && decide (∀ i, i < k → pa m i = i)
theorem pm_st_iff {n : Nat} {A : Nat → Nat → Bool} {k : Nat} {m : List Nat} : pm_st n A k m = true ↔ (nt_E n A (pm_arr A m) ∧ ∀ i, i < k → pa m i = i) := by
  unfold pm_st
  rw [Bool.and_eq_true, pm_ib_iff, decide_eq_true_iff]
theorem pm_E_c {n : Nat} {A B C : Nat → Nat → Bool} {s t : List Nat} (hs : pm_P n s) (h1 : nt_E n B (pm_arr C s)) (h2 : nt_E n A (pm_arr B t)) (ht : pm_P n t) : nt_E n A (pm_arr C (pm_c n s t)) := h2.trans ((pm_arr_E h1 ht).trans pm_arr_arr)
theorem pm_E_v {n : Nat} {A B : Nat → Nat → Bool} {s : List Nat} (hs : pm_P n s) (h : nt_E n A (pm_arr B s)) : nt_E n B (pm_arr A (pm_v n s)) := fun p q hp hq => by
  unfold pm_arr
  have h1 := pm_lt (pm_v_P hs) hp
  have h2 := pm_lt (pm_v_P hs) hq
  rw [h _ _ h1 h2]
  unfold pm_arr
  rw [pm_vr hs hp, pm_vr hs hq]
theorem pm_st_orb {n k : Nat} {A : Nat → Nat → Bool} (hk : k < n) : pm_n n (pm_st n A k) = fb_ct (fun p => decide (0 < pm_n n (fun l => pm_st n A k l && decide (pa l k = p)))) n * pm_n n (pm_st n A (k + 1)) := by
  refine pm_orb hk (fun l0 l h0 h1 hP hQ => ?_) (fun l0 l h0 h1 hP hQ he => ?_)
  · rw [pm_st_iff] at hP hQ ⊢
    refine ⟨⟨pm_E_c h0 hP.1 hQ.1 h1, fun i hi => ?_⟩, ?_⟩
    · rw [pm_c_at (by omega), hQ.2 i (by omega), hP.2 i hi]
    · rw [pm_c_at hk, hQ.2 k (by omega)]
  · rw [pm_st_iff] at hP hQ ⊢
    refine ⟨pm_E_c (pm_v_P h0) (pm_E_v h0 hP.1) hQ.1 h1, fun i hi => ?_⟩
    rw [pm_c_at (by omega)]
    by_cases e : i = k
    · rw [e, he, pm_vl h0 hk]
    · rw [hQ.2 i (by omega)]
      have := pm_vl h0 (show i < n by omega)
      rw [hP.2 i (by omega)] at this
      exact this
theorem pm_st_n {n : Nat} {A : Nat → Nat → Bool} : pm_n n (pm_st n A n) = 1 := by
  apply Nat.le_antisymm
  · refine Nat.le_of_not_lt (fun hc => ?_)
    have hone : ∀ l, pm_P n l → pm_st n A n l = true → l = pm_id n := fun l hl h => pm_ext (pm_len hl) (pm_len (pm_id_P n)) (fun i hi => by rw [(pm_st_iff.mp h).2 i hi, pm_id_at hi])
    have hle : pm_n n (pm_st n A n) ≤ [pm_id n].length := by
      unfold pm_n
      refine pm_sublen _ _ ((pm_L_nd n).filter _) (fun x hx => ?_)
      have := List.mem_filter.mp hx
      rw [hone x (pm_L_mem.mp this.1) this.2]
      exact List.mem_singleton.mpr rfl
    have : [pm_id n].length = 1 := rfl
    omega
  · refine pm_n_pos.mpr ⟨pm_id n, pm_id_P n, pm_st_iff.mpr ⟨fun p q hp hq => ?_, fun i hi => pm_id_at hi⟩⟩
    unfold pm_arr
    rw [pm_id_at hp, pm_id_at hq]
theorem pm_pre_id {n k : Nat} (hn : n < 8) (hk : k ≤ n) : pm_pre n k (2 ^ k - 1) (fun i => i) := by
  refine ⟨hk, ?_, fun i hi => (show i < n by omega), fun i j _ _ e => e, fun x hx => ?_⟩
  · have : 2 ^ k ≤ 2 ^ 7 := Nat.pow_le_pow_right (by decide) (by omega)
    have := Nat.two_pow_pos k
    omega
  · rw [Nat.testBit_two_pow_sub_one, decide_eq_true_iff]
    exact ⟨fun h => ⟨x, h, rfl⟩, fun ⟨i, h1, (h2 : i = x)⟩ => by omega⟩
theorem nt_placesOf {n k : Nat} {A : Nat → Nat → Bool} {rows at0 : Nat → Int32} (hn : n < 8) (hG : nt_G A) (h : nt_Rep n A rows) (hk : k < n) (hat : ∀ i, i < k → at0 i = nI i) : ∃ at', M_X2_placesOf (nI k) at0 (nI n) rows = some (nI (fb_ct (fun p => decide (0 < pm_n n (fun l => pm_st n A k l && decide (pa l k = p)))) n), at') ∧ (∀ i, i < k → at' i = at0 i) := by
  have hag : ∀ x, decide (0 < pm_n n (fun l => pm_st n A k l && decide (pa l k = x))) = true ↔ pm_iso n A A (k + 1) (pm_put (fun i => i) k x) := fun x => by
    rw [decide_eq_true_iff, pm_n_pos]
    constructor
    · rintro ⟨m, m1, m2⟩
      rw [Bool.and_eq_true, pm_st_iff, decide_eq_true_iff] at m2
      refine ⟨m, m1, fun i hi => ?_, m2.1.1⟩
      by_cases e : i = k
      · rw [e, pm_put_at]; exact m2.2
      · rw [pm_put_ne e]; exact m2.1.2 i (by omega)
    · rintro ⟨m, m1, m2, m3⟩
      refine ⟨m, m1, ?_⟩
      rw [Bool.and_eq_true, pm_st_iff, decide_eq_true_iff]
      exact ⟨⟨m3, fun i hi => by rw [m2 i (by omega), pm_put_ne (by omega)]⟩, by rw [m2 k (by omega), pm_put_at]⟩
  generalize hf : (fun p => decide (0 < pm_n n (fun l => pm_st n A k l && decide (pa l k = p)))) = f
  have hfi : ∀ x, f x = true ↔ pm_iso n A A (k + 1) (pm_put (fun i => i) k x) := fun x => by rw [← hf]; exact hag x
  have hp := pm_pre_id hn (show k ≤ n by omega)
  have hfk : fb_ct f k = 0 := fb_ct_zero.mpr (fun x hx => by
    cases hb : f x with
    | false => rfl
    | true =>
      obtain ⟨m, m1, m2, _⟩ := (hfi x).mp hb
      have e1 := m2 x (by omega)
      have e2 := m2 k (by omega)
      rw [pm_put_ne (by omega)] at e1
      rw [pm_put_at] at e2
      have := pm_inj m1 (show x < n by omega) hk (e1.trans e2.symm)
      omega)
  have loop : ∃ r, on_loop (fun (s : Int32 × Int32 × (Nat → Int32)) => B_X2_placesOf_12 (nI k) (nI (2 ^ k - 1)) (nI n) rows s.1 s.2.1 s.2.2) on_F ((0 : Int32), nI k, at0) = some r ∧ ∃ at', r = (nI (fb_ct f n), at') ∧ (∀ i, i < k → at' i = at0 i) := by
    refine ml_invF (fun i s => ∃ at', s = (nI (fb_ct f (k + i)), nI (k + i), at') ∧ (∀ i, i < k → at' i = at0 i)) _ (n - k) (by omega) (fun i s hi hs => ?_) (fun s hs => ?_) ⟨at0, by rw [Nat.add_zero, hfk]; rfl, fun _ _ => rfl⟩
    · obtain ⟨at1, rfl, i1⟩ := hs
      left
      have hx : k + i < n := by omega
      have hat1 : ∀ j, j < k → at1 j = nI j := fun j hj => (i1 j hj).trans (hat j hj)
      obtain ⟨b, g1, g2, g3⟩ := nt_goesTo (pre := fun i => i) hn h h hk hx hp.2.2.1 hat1
      have hbt : (2 ^ k - 1).testBit (k + i) = false := by rw [Nat.testBit_two_pow_sub_one]; simp
      cases b with
      | false =>
        have hff : f (k + i) = false := by
          cases hb : f (k + i) with
          | false => rfl
          | true =>
            obtain ⟨m, m1, m2, m3⟩ := (hfi _).mp hb
            have e2 : pa m k = k + i := by rw [m2 k (by omega), pm_put_at]
            exact absurd (g3 (by rw [← e2]; exact pm_iso_dg m1 m3 hk) (fun j hj => by
              have e1 : pa m j = j := by rw [m2 j (by omega), pm_put_ne (by omega)]
              rw [m3 j k (by omega) hk]
              unfold pm_arr
              rw [e1, e2])) (by decide)
        refine ⟨(nI (fb_ct f (k + (i + 1))), nI (k + (i + 1)), at1), ?_, at1, rfl, i1⟩
        show B_X2_placesOf_12 (nI k) (nI (2 ^ k - 1)) (nI n) rows (nI (fb_ct f (k + i))) (nI (k + i)) at1 = _
        unfold B_X2_placesOf_12
        rw [if_neg (nI_ge hx (by omega)), g1, ml_b, if_pos nt_i0, ml_let, nI_1, show k + (i + 1) = k + i + 1 by omega, fb_ct_succ, hff]
        rfl
      | true =>
        have hg := g2 rfl
        obtain ⟨b, at2, r1, r2, r3⟩ := nt_canGoOn 9 (at0 := upd at1 k (nI (k + i))) hn hG hG h h (pm_pre_put hn hp hk hx hbt) (by omega) (fun j hj => by
            by_cases e : j = k
            · rw [e, pm_put_at]
              exact if_pos rfl
            · rw [pm_put_ne e]
              exact (if_neg e).trans (hat1 j (by omega)))
          (fun u v hu hv => by
            by_cases eu : u = k
            · by_cases ev : v = k
              · rw [eu, ev, hG.2, hG.2]
              · rw [eu, pm_put_at, pm_put_ne ev, hG.1, hG.1 (k + i)]
                exact hg v (by omega)
            · by_cases ev : v = k
              · rw [ev, pm_put_at, pm_put_ne eu]
                exact hg u (by omega)
              · rw [pm_put_ne eu, pm_put_ne ev])
        have hat2 : ∀ j, j < k → at2 j = at0 j := fun j hj => by
          rw [r2 j (by omega), ← i1 j hj]
          exact if_neg (by omega)
        have hbf : f (k + i) = b := by
          cases hb : f (k + i) with
          | true => exact (r3.mpr ((hfi _).mp hb)).symm
          | false =>
            cases b with
            | false => rfl
            | true => rw [(hfi _).mpr (r3.mp rfl)] at hb; exact absurd hb (by decide)
        refine ⟨(nI (fb_ct f (k + (i + 1))), nI (k + (i + 1)), at2), ?_, at2, rfl, hat2⟩
        show B_X2_placesOf_12 (nI k) (nI (2 ^ k - 1)) (nI n) rows (nI (fb_ct f (k + i))) (nI (k + i)) at1 = _
        unfold B_X2_placesOf_12
        rw [if_neg (nI_ge hx (by omega)), g1, ml_b, if_neg (by decide), ml_gi (by omega) (by omega), nI_clamp (by omega), nI_1, nt_setb _ hp.2.1 _ (by omega), r1, ml_b, show k + (i + 1) = k + i + 1 by omega, fb_ct_succ, hbf]
        cases b with
        | false =>
          rw [if_pos (show nt_i false = 0 from rfl), ml_let, nI_1]
          rfl
        | true =>
          rw [if_neg (show ¬ nt_i true = 0 by decide), ml_let, ml_let, nI_1, nI_1]
          rfl
    · obtain ⟨at1, rfl, i1⟩ := hs
      rw [show k + (n - k) = n by omega]
      refine ⟨(nI (fb_ct f n), at1), ?_, at1, rfl, i1⟩
      show B_X2_placesOf_12 (nI k) (nI (2 ^ k - 1)) (nI n) rows (nI (fb_ct f n)) (nI n) at1 = _
      unfold B_X2_placesOf_12
      rw [if_pos (nI_le (Nat.le_refl _) (by omega))]
  obtain ⟨_, h1, at1, rfl, h2⟩ := loop
  refine ⟨at1, ?_, h2⟩
  unfold M_X2_placesOf
  rw [ml_let, nt_all k (by omega), h1, ml_b]
theorem pm_n_le_f {n : Nat} (hn : n < 8) (hn3 : 3 ≤ n) (P : List Nat → Bool) : pm_n n P ≤ 5040 := by
  rw [← pr_n hn hn3]
  have := fb_ct_le (fun r => P (pr n r)) (pm_f n)
  have := pm_f_le n hn
  omega
theorem nI_mul (a b : Nat) : nI a * nI b = nI (a * b) := (Int32.ofNat_mul a b).symm
theorem nt_keepersOfNet {n k : Nat} {A : Nat → Nat → Bool} {rows at0 : Nat → Int32} (hn : n < 8) (hG : nt_G A) (h : nt_Rep n A rows) (hk : k ≤ n) : ∃ at', M_X2_keepersOfNet (nI k) at0 (nI n) rows = some (nI (pm_n n (pm_st n A k)), at') := by
  have first : on_loop (fun (s : Int32 × (Nat → Int32)) => B_X2_keepersOfNet_2 (nI k) s.1 s.2) on_F ((0 : Int32), at0) = some (fa_fill nI at0 k) := by
    refine ml_for (fun i => (nI i, fa_fill nI at0 i)) k (by omega) (by rw [fa_fill_0]; rfl) (fun i hi => ?_) ?_
    · show B_X2_keepersOfNet_2 (nI k) (nI i) (fa_fill nI at0 i) = _
      unfold B_X2_keepersOfNet_2
      rw [if_neg (nI_ge hi (by omega)), ml_gi (by omega) (by omega), nI_clamp (by omega), ml_let, nI_1, fa_fill_succ]
    · show B_X2_keepersOfNet_2 (nI k) (nI k) (fa_fill nI at0 k) = _
      unfold B_X2_keepersOfNet_2
      rw [if_pos (nI_le (Nat.le_refl _) (by omega))]
  have loop : ∃ r, on_loop (fun (s : Int32 × Int32 × (Nat → Int32)) => B_X2_keepersOfNet_25 (nI n) rows s.1 s.2.1 s.2.2) on_F ((1 : Int32), nI k, fa_fill nI at0 k) = some r ∧ r.1 = nI (pm_n n (pm_st n A k)) := by
    refine ml_invF (fun i s => ∃ c at', s = (nI c, nI (k + i), at') ∧ (∀ j, j < k + i → at' j = nI j) ∧ c * pm_n n (pm_st n A (k + i)) = pm_n n (pm_st n A k)) _ (n - k) (by omega) (fun i s hi hs => ?_) (fun s hs => ?_) ⟨1, fa_fill nI at0 k, rfl, fun j hj => fa_fill_in hj, by rw [Nat.one_mul]; rfl⟩
    · obtain ⟨c, at1, rfl, h1, h2⟩ := hs
      left
      obtain ⟨at2, p1, p2⟩ := nt_placesOf hn hG h (show k + i < n by omega) h1
      rw [pm_st_orb (show k + i < n by omega), ← Nat.mul_assoc] at h2
      refine ⟨(_, nI (k + (i + 1)), upd at2 (k + i) (nI (k + i))), ?_, _, _, rfl, fun j hj => ?_, h2⟩
      · show B_X2_keepersOfNet_25 (nI n) rows (nI c) (nI (k + i)) at1 = _
        unfold B_X2_keepersOfNet_25
        rw [if_neg (nI_ge (show k + i < n by omega) (by omega)), p1, ml_b, ml_let, ml_gi (by omega) (by omega), nI_clamp (by omega), ml_let, nI_1, nI_mul]
        rfl
      · by_cases e : j = k + i
        · rw [e]
          exact if_pos rfl
        · exact (if_neg e).trans ((p2 j (by omega)).trans (h1 j (by omega)))
    · obtain ⟨c, at1, rfl, h1, h2⟩ := hs
      rw [show k + (n - k) = n by omega] at h2 ⊢
      rw [pm_st_n, Nat.mul_one] at h2
      refine ⟨(nI c, at1), ?_, by rw [← h2]⟩
      show B_X2_keepersOfNet_25 (nI n) rows (nI c) (nI n) at1 = _
      unfold B_X2_keepersOfNet_25
      rw [if_pos (nI_le (Nat.le_refl _) (by omega))]
  obtain ⟨⟨r1, r2⟩, h1, h2⟩ := loop
  have h2 : r1 = _ := h2
  refine ⟨r2, ?_⟩
  unfold M_X2_keepersOfNet
  rw [first, ml_b, h1, ml_b, h2]
theorem pm_arr_enc {n : Nat} (hn : n < 8) {A B : Nat → Nat → Bool} (hA : nt_G A) (hB : nt_G B) : nt_enc n A = nt_enc n B ↔ nt_E n A B := by
  constructor
  · intro h p q hp hq
    rcases Nat.lt_trichotomy p q with c | c | c
    · exact nt_enc_inj hn h c hq
    · rw [c, hA.2, hB.2]
    · rw [hA.1, hB.1]
      exact nt_enc_inj hn h c hp
  · intro h
    exact h.enc
theorem pm_cn_self {n a : Nat} (hn : n < 8) (ha : a < 2 ^ nt_np n) : pm_cn n (nt_adj n a) a = pm_n n (pm_st n (nt_adj n a) 0) := by
  unfold pm_cn
  rw [← pm_n_v (pm_st n (nt_adj n a) 0)]
  refine pm_n_cong (fun l hl => ?_)
  have hG := nt_adj_G n a
  rw [Bool.eq_iff_iff, decide_eq_true_iff, pm_st_iff, (pm_ren_arr (n := n) (nt_adj n a) l).enc]
  constructor
  · intro h
    refine ⟨((pm_arr_enc hn (pm_arr_G hG _) hG).mp (h.trans (nt_enc_adj hn ha).symm)).symm, fun i hi => absurd hi (Nat.not_lt_zero i)⟩
  · intro h
    rw [← h.1.enc, nt_enc_adj hn ha]
theorem pm_cn_pos {n b : Nat} (hn : n < 8) (hb : b < 2 ^ nt_np n) {A : Nat → Nat → Bool} (hG : nt_G A) : 0 < pm_cn n A b ↔ ∃ m, pm_P n m ∧ nt_E n A (pm_arr (nt_adj n b) m) := by
  unfold pm_cn
  rw [pm_n_pos]
  constructor
  · rintro ⟨l, hl, h⟩
    rw [decide_eq_true_iff, (pm_ren_arr (n := n) A l).enc] at h
    have h2 := (pm_arr_enc hn (pm_arr_G hG _) (nt_adj_G n b)).mp (h.trans (nt_enc_adj hn hb).symm)
    have h3 := pm_E_v (pm_v_P hl) h2.symm
    rw [pm_vv hl] at h3
    exact ⟨l, hl, h3⟩
  · rintro ⟨m, hm, h⟩
    refine ⟨m, hm, ?_⟩
    rw [decide_eq_true_iff, (pm_ren_arr (n := n) A m).enc, ← (pm_E_v hm h).enc, nt_enc_adj hn hb]
/-! the class -/
def pm_qc (n : Nat) (A B : Nat → Nat → Bool) (m : List Nat) : Bool := pm_ib n (pm_al n B 0) (pm_al n A (pa m 0)) m
theorem pm_cc_qc {n : Nat} (hn : n < 8) (hn0 : 0 < n) {A B : Nat → Nat → Bool} (hA : nt_G A) (hB : nt_G B) : pm_cc n A B = pm_n n (pm_qc n A B) := by
  unfold pm_cc
  rw [← pm_n_v (pm_qc n A B)]
  refine pm_n_cong (fun l hl => ?_)
  have e : nt_E n (pm_al n (pm_ren A l) 0) (pm_arr (pm_al n A (pa (pm_v n l) 0)) (pm_v n l)) := (pm_al_E (pm_ren_arr A l) hn0).trans (pm_al_arr (pm_v_P hl) hn0)
  unfold pm_qc
  rw [Bool.eq_iff_iff, decide_eq_true_iff, pm_ib_iff, e.enc, pm_arr_enc hn (pm_arr_G (pm_al_G hA _) _) (pm_al_G hB 0)]
  exact ⟨fun h => h.symm, fun h => h.symm⟩
theorem pm_qc_orb {n : Nat} (hn0 : 0 < n) {A : Nat → Nat → Bool} : pm_n n (pm_qc n A A) = fb_ct (fun p => decide (0 < pm_n n (fun l => pm_qc n A A l && decide (pa l 0 = p)))) n * pm_n n (pm_st n (pm_al n A 0) 1) := by
  refine pm_orb hn0 (fun l0 l h0 h1 hP hQ => ?_) (fun l0 l h0 h1 hP hQ he => ?_)
  · unfold pm_qc at hP ⊢
    rw [pm_ib_iff] at hP ⊢
    rw [pm_st_iff] at hQ
    have e : pa (pm_c n l0 l) 0 = pa l0 0 := by rw [pm_c_at hn0, hQ.2 0 (by omega)]
    rw [e]
    exact ⟨pm_E_c h0 hP hQ.1 h1, rfl⟩
  · unfold pm_qc at hP hQ
    rw [pm_ib_iff] at hP hQ
    rw [pm_st_iff]
    rw [he] at hQ
    refine ⟨pm_E_c (pm_v_P h0) (pm_E_v h0 hP) hQ h1, fun i hi => ?_⟩
    rw [show i = 0 by omega, pm_c_at hn0, he, pm_vl h0 hn0]
theorem nt_keepersOfClass {n : Nat} {A : Nat → Nat → Bool} {rows at0 rows2 : Nat → Int32} {m2 : Int32} (hn : n < 8) (hn3 : 3 ≤ n) (hG : nt_G A) (h : nt_Rep n A rows) : ∃ at' rows' rows2', M_X2_keepersOfClass at0 (nI n) rows m2 rows2 = some (nI (pm_cc n A A), at', rows', nI n, rows2') := by
  obtain ⟨r0, l1, l2⟩ := nt_leaveAlone hn (show 0 < n by omega) h
  have l3 : nt_Rep n (pm_al n A 0) r0 := l2
  have hG0 := pm_al_G (n := n) hG 0
  generalize hf : (fun p => decide (0 < pm_n n (fun l => pm_qc n A A l && decide (pa l 0 = p)))) = f
  have hfi : ∀ x, x < n → (f x = true ↔ pm_iso n (pm_al n A 0) (pm_al n (pm_al n A 0) x) 1 (pm_put (fun _ => 0) 0 x)) := fun x hx => by
    rw [← hf]
    rw [decide_eq_true_iff, pm_n_pos]
    constructor
    · rintro ⟨m, m1, m2⟩
      unfold pm_qc at m2
      rw [Bool.and_eq_true, pm_ib_iff, decide_eq_true_iff] at m2
      have e := m2.2
      rw [e] at m2
      exact ⟨m, m1, fun i hi => by rw [show i = 0 by omega, pm_put_at]; exact e, m2.1.trans (pm_arr_E (pm_al_al hx).symm m1)⟩
    · rintro ⟨m, m1, m2, m3⟩
      refine ⟨m, m1, ?_⟩
      have e : pa m 0 = x := by rw [m2 0 (by omega), pm_put_at]
      unfold pm_qc
      rw [Bool.and_eq_true, pm_ib_iff, decide_eq_true_iff, e]
      exact ⟨m3.trans (pm_arr_E (pm_al_al hx) m1), rfl⟩
  have loop : ∃ r, on_loop (fun (s : Int32 × Int32 × (Nat → Int32) × Int32 × (Nat → Int32)) => B_X2_keepersOfClass_10 (nI n) r0 s.1 s.2.1 s.2.2.1 s.2.2.2.1 s.2.2.2.2) on_F ((0 : Int32), (0 : Int32), at0, m2, rows2) = some r ∧ ∃ at' rows2', r = (nI (fb_ct f n), at', nI n, rows2') := by
    refine ml_invF (fun i s => ∃ at' mm rows2', s = (nI (fb_ct f i), nI i, at', mm, rows2') ∧ (i = 0 ∨ mm = nI n)) _ n (by omega) (fun i s hi hs => ?_) (fun s hs => ?_) ⟨at0, m2, rows2, rfl, Or.inl rfl⟩
    · obtain ⟨at1, mm, rr, rfl, _⟩ := hs
      left
      obtain ⟨r2, c1, c2⟩ := nt_copySwitched (rows0 := rr) hn (nt_mk_lt n (pm_al n A 0 i)) l3
      have c3 : nt_Rep n (pm_al n (pm_al n A 0) i) r2 := c2
      obtain ⟨b, at2, q1, _, q3⟩ := nt_canGoOn 9 (at0 := upd at1 0 (nI i)) (pre := pm_put (fun _ => 0) 0 i) hn hG0 (pm_al_G hG0 i) l3 c3 (pm_pre1 hn hi _) (by omega) (fun j hj => by
        rw [show j = 0 by omega, pm_put_at]
        exact if_pos rfl) (fun u v hu hv => by rw [show u = v by omega, hG0.2, (pm_al_G hG0 i).2])
      have hbf : f i = b := by
        cases hb : f i with
        | true => exact (q3.mpr ((hfi i hi).mp hb)).symm
        | false =>
          cases b with
          | false => rfl
          | true => rw [(hfi i hi).mpr (q3.mp rfl)] at hb; exact absurd hb (by decide)
      refine ⟨(nI (fb_ct f (i + 1)), nI (i + 1), at2, nI n, r2), ?_, at2, nI n, r2, rfl, Or.inr rfl⟩
      show B_X2_keepersOfClass_10 (nI n) r0 (nI (fb_ct f i)) (nI i) at1 mm rr = _
      rw [fb_ct_succ, hbf]
      generalize fb_ct f i = c
      unfold B_X2_keepersOfClass_10
      rw [if_neg (nI_ge hi (by omega)), ml_gi (by omega) (by omega), nI_clamp (by omega), l3 i hi, c1, ml_b, nt_n0, ml_gi (by omega) (by omega), nI_clamp (by omega), nt_sh1 i (by omega), nt_n1, q1, ml_b]
      cases b with
      | false =>
        rw [if_pos (show nt_i false = nI 0 from nt_n0), ml_let, ← nt_n1, nI_1]
        rfl
      | true =>
        rw [if_neg (show ¬ nt_i true = nI 0 by decide), ml_let, ml_let, ← nt_n1, nI_1, nI_1]
        rfl
    · obtain ⟨at1, mm, rr, rfl, hmm⟩ := hs
      have hmm2 : mm = nI n := hmm.resolve_left (by omega)
      subst hmm2
      refine ⟨(nI (fb_ct f n), at1, nI n, rr), ?_, at1, rr, rfl⟩
      show B_X2_keepersOfClass_10 (nI n) r0 (nI (fb_ct f n)) (nI n) at1 (nI n) rr = _
      unfold B_X2_keepersOfClass_10
      rw [if_pos (nI_le (Nat.le_refl _) (by omega))]
  obtain ⟨_, h1, at1, rr, rfl⟩ := loop
  obtain ⟨at2, k1⟩ := nt_keepersOfNet (k := 1) (at0 := at1) hn hG0 l3 (by omega)
  refine ⟨at2, r0, rr, ?_⟩
  unfold M_X2_keepersOfClass
  rw [nt_n0, l1, ml_b, ← nt_n0, h1, ml_b, nt_n1, k1, ml_b, pm_cc_qc hn (by omega) hG hG, pm_qc_orb (by omega), hf, nI_mul]
/-! kinds that are equal -/
def pm_R (n : Nat) (A B : Nat → Nat → Bool) : Prop := ∃ m, pm_P n m ∧ ∀ q, q < n → nt_E n (pm_al n (pm_arr A m) q) (pm_al n B q)
theorem pm_R_symm {n : Nat} {A B : Nat → Nat → Bool} (h : pm_R n A B) : pm_R n B A := by
  obtain ⟨m, hm, h⟩ := h
  refine ⟨pm_v n m, pm_v_P hm, fun q hq => ?_⟩
  have hv := pm_lt (pm_v_P hm) hq
  refine (pm_al_arr (pm_v_P hm) hq).trans ?_
  refine (pm_arr_E (h _ hv).symm (pm_v_P hm)).trans ?_
  refine (pm_arr_E (pm_al_arr hm hv) (pm_v_P hm)).trans ?_
  rw [pm_vr hm hq]
  exact (pm_E_v hm (fun _ _ _ _ => rfl)).symm
theorem pm_R_K {n : Nat} (hn0 : 0 < n) {A B : Nat → Nat → Bool} (h : pm_R n A B) {x : Nat} (hx : pm_K n B x) : pm_K n A x := by
  obtain ⟨m, hm, h⟩ := h
  obtain ⟨s, hs, rfl⟩ := hx
  refine ⟨pm_c n m s, pm_c_P hm hs, ?_⟩
  have h0 := pm_lt hs hn0
  rw [pm_c_at hn0]
  exact ((pm_arr_E (h _ h0).symm hs).trans ((pm_arr_E (pm_al_arr hm h0) hs).trans pm_arr_arr)).enc
theorem pm_cc_R {n : Nat} (hn : n < 8) (hn0 : 0 < n) {A B : Nat → Nat → Bool} (hA : nt_G A) (hB : nt_G B) : 0 < pm_cc n A B ↔ pm_R n A B := by
  rw [pm_cc_qc hn hn0 hA hB, pm_n_pos]
  constructor
  · rintro ⟨m, hm, h⟩
    unfold pm_qc at h
    rw [pm_ib_iff] at h
    refine ⟨m, hm, fun q hq => ?_⟩
    have h1 : nt_E n (pm_al n (pm_arr A m) 0) (pm_al n B 0) := (pm_al_arr hm hn0).trans h.symm
    exact (pm_al_al hq).symm.trans ((pm_al_E h1 hq).trans (pm_al_al hq))
  · rintro ⟨m, hm, h⟩
    refine ⟨m, hm, ?_⟩
    unfold pm_qc
    rw [pm_ib_iff]
    exact (h 0 hn0).symm.trans (pm_al_arr hm hn0)
theorem pm_kinds {n : Nat} (hn : n < 8) (hn0 : 0 < n) {A B : Nat → Nat → Bool} (hA : nt_G A) (hB : nt_G B) {x y : Nat} (hx : pm_least n A x) (hy : pm_least n B y) : x = y ↔ 0 < pm_cc n A B := by
  rw [pm_cc_R hn hn0 hA hB]
  constructor
  · rintro rfl
    obtain ⟨⟨m1, h1, e1⟩, _⟩ := hx
    obtain ⟨⟨m2, h2, e2⟩, _⟩ := hy
    have hE := (pm_arr_enc hn (pm_arr_G (pm_al_G hA _) m1) (pm_arr_G (pm_al_G hB _) m2)).mp (e1.symm.trans e2)
    have hq := pm_lt h2 hn0
    have hP := pm_c_P h1 (pm_v_P h2)
    have e : pa (pm_c n m1 (pm_v n m2)) (pa m2 0) = pa m1 0 := by rw [pm_c_at hq, pm_vl h2 hn0]
    have key : nt_E n (pm_al n (pm_arr A (pm_c n m1 (pm_v n m2))) (pa m2 0)) (pm_al n B (pa m2 0)) := by
      refine (pm_al_arr hP hq).trans ?_
      rw [e]
      refine (pm_arr_arr (n := n) (A := pm_al n A (pa m1 0)) (s := m1) (m := pm_v n m2)).symm.trans ?_
      refine (pm_arr_E hE (pm_v_P h2)).trans ?_
      exact (pm_E_v h2 (fun _ _ _ _ => rfl)).symm
    exact ⟨_, hP, fun q hq2 => (pm_al_al hq2).symm.trans ((pm_al_E key hq2).trans (pm_al_al hq2))⟩
  · intro h
    exact Nat.le_antisymm (hx.2 y (pm_R_K hn0 h hy.1)) (hy.2 x (pm_R_K hn0 (pm_R_symm h) hx.1))
