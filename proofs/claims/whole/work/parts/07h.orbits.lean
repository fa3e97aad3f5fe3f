/-! ===== orbits ===== -/
theorem pm_c_inj {n : Nat} {t a b : List Nat} (ht : pm_P n t) (ha : pm_P n a) (hb : pm_P n b) (e : pm_c n t a = pm_c n t b) : a = b :=
  pm_ext (pm_len ha) (pm_len hb) (fun i hi => pm_inj ht (pm_lt ha hi) (pm_lt hb hi) (by rw [← pm_c_at hi, ← pm_c_at hi, e]))
theorem fb_sm_ct {f : Nat → Nat} {b : Nat → Bool} {c : Nat} : ∀ {n : Nat}, (∀ p, p < n → f p = if b p then c else 0) → fb_sm f n = fb_ct b n * c
  | 0, _ => (Nat.zero_mul c).symm
  | n + 1, h => by
    rw [fb_sm_succ, fb_ct_succ, fb_sm_ct (fun p hp => h p (by omega)), h n (by omega), Nat.add_mul]
    cases b n <;> simp
theorem pm_orb {n k : Nat} {P Q : List Nat → Bool} (hk : k < n) (h1 : ∀ l0 l, pm_P n l0 → pm_P n l → P l0 = true → Q l = true → P (pm_c n l0 l) = true ∧ pa (pm_c n l0 l) k = pa l0 k) (h2 : ∀ l0 l, pm_P n l0 → pm_P n l → P l0 = true → P l = true → pa l k = pa l0 k → Q (pm_c n (pm_v n l0) l) = true) : pm_n n P = fb_ct (fun p => decide (0 < pm_n n (fun l => P l && decide (pa l k = p)))) n * pm_n n Q := by
  rw [pm_n_split P hk]
  refine fb_sm_ct (fun p _ => ?_)
  by_cases c : 0 < pm_n n (fun l => P l && decide (pa l k = p))
  · rw [if_pos (decide_eq_true c)]
    obtain ⟨l0, hl0, hP⟩ := pm_n_pos.mp c
    rw [Bool.and_eq_true, decide_eq_true_iff] at hP
    apply Nat.le_antisymm
    · refine pm_n_le (pm_c n (pm_v n l0)) (fun l hl hq => ?_) (fun a b ha hb _ _ e => pm_c_inj (pm_v_P hl0) ha hb e)
      rw [Bool.and_eq_true, decide_eq_true_iff] at hq
      exact ⟨pm_c_P (pm_v_P hl0) hl, h2 l0 l hl0 hl hP.1 hq.1 (hq.2.trans hP.2.symm)⟩
    · refine pm_n_le (pm_c n l0) (fun l hl hq => ?_) (fun a b ha hb _ _ e => pm_c_inj hl0 ha hb e)
      have := h1 l0 l hl0 hl hP.1 hq
      refine ⟨pm_c_P hl0 hl, ?_⟩
      rw [Bool.and_eq_true, decide_eq_true_iff]
      exact ⟨this.1, this.2.trans hP.2⟩
  · rw [if_neg (by rw [decide_eq_true_iff]; exact c)]
    omega
/-! renumberings that bring a net to another -/
def pm_ib (n : Nat) (A B : Nat → Nat → Bool) (m : List Nat) : Bool := decide (∀ i, i < n → ∀ j, j < n → A i j = B (pa m i) (pa m j))
theorem pm_ib_iff {n : Nat} {A B : Nat → Nat → Bool} {m : List Nat} : pm_ib n A B m = true ↔ nt_E n A (pm_arr B m) := by
  unfold pm_ib
  rw [decide_eq_true_iff]
  exact ⟨fun h p q hp hq => h p hp q hq, fun h p hp q hq => h p q hp hq⟩
def pm_iso (n : Nat) (A B : Nat → Nat → Bool) (k : Nat) (pre : Nat → Nat) : Prop := ∃ m, pm_P n m ∧ (∀ i, i < k → pa m i = pre i) ∧ nt_E n A (pm_arr B m)
theorem pm_ct_perm {n : Nat} {m : List Nat} (h : pm_P n m) (f : Nat → Bool) : fb_ct (fun j => f (pa m j)) n = fb_ct f n := by
  rw [pm_ct, pm_ct]
  have h1 : (m.filter f).length = ((List.range n).filter f).length := (h.filter f).length_eq
  rw [← h1]
  have h2 : m.filter f = (pm_mk n (pa m)).filter f := by rw [pm_mk_self h]
  rw [h2]
  unfold pm_mk
  rw [List.filter_map, List.length_map]
  rfl
theorem pm_iso_dg {n : Nat} {A B : Nat → Nat → Bool} {m : List Nat} (hm : pm_P n m) (h : nt_E n A (pm_arr B m)) {k : Nat} (hk : k < n) : fb_ct (A k) n = fb_ct (B (pa m k)) n := by
  rw [← pm_ct_perm hm (B (pa m k))]
  exact fb_ct_cong (fun j hj => h k j hk hj)
theorem nt_goesTo {n k x : Nat} {A B : Nat → Nat → Bool} {ra rb at0 : Nat → Int32} {pre : Nat → Nat} (hn : n < 8) (ha : nt_Rep n A ra) (hb : nt_Rep n B rb) (hk : k < n) (hx : x < n) (hpre : ∀ i, i < k → pre i < n) (hat : ∀ i, i < k → at0 i = nI (pre i)) : ∃ b, M_X2_goesTo (nI k) (nI x) ra rb at0 = some (nt_i b) ∧ (b = true → ∀ i, i < k → A i k = B (pre i) x) ∧ (fb_ct (A k) n = fb_ct (B x) n → (∀ i, i < k → A i k = B (pre i) x) → b = true) := by
  have hl1 := fb_ct_le (A k) n
  have hl2 := fb_ct_le (B x) n
  unfold M_X2_goesTo
  rw [nt_degree hn ha hk, ml_b, nt_degree hn hb hx, ml_b]
  by_cases c : fb_ct (A k) n = fb_ct (B x) n
  · rw [if_pos (by rw [c])]
    have loop : ∃ r, on_loop (fun (s : Int32) => B_X2_goesTo_19 (nI k) (nI x) ra rb at0 s) on_F (0 : Int32) = some r ∧ ((r = Sum.inr () ∧ ∀ i, i < k → A i k = B (pre i) x) ∨ (r = Sum.inl 0 ∧ ¬ ∀ i, i < k → A i k = B (pre i) x)) := by
      refine ml_invF (fun i s => s = nI i ∧ ∀ j, j < i → A j k = B (pre j) x) _ k (by omega) (fun i s hi hs => ?_) (fun s hs => ?_) ⟨rfl, fun j hj => absurd hj (Nat.not_lt_zero j)⟩
      · obtain ⟨rfl, hs⟩ := hs
        by_cases e : A i k = B (pre i) x
        · refine Or.inl ⟨nI (i + 1), ?_, rfl, fun j hj => ?_⟩
          · unfold B_X2_goesTo_19
            rw [if_neg (nI_ge hi (by omega)), nt_joined hn ha (show i < n by omega) hk, ml_b, ml_gi (by omega) (by omega), nI_clamp (by omega), hat i hi, nt_joined hn hb (hpre i hi) hx, ml_b, if_pos (by rw [e]), ml_let, nI_1]
          · by_cases ej : j = i
            · rw [ej]; exact e
            · exact hs j (by omega)
        · refine Or.inr ⟨_, ?_, Or.inr ⟨rfl, fun z => e (z i hi)⟩⟩
          unfold B_X2_goesTo_19
          rw [if_neg (nI_ge hi (by omega)), nt_joined hn ha (show i < n by omega) hk, ml_b, ml_gi (by omega) (by omega), nI_clamp (by omega), hat i hi, nt_joined hn hb (hpre i hi) hx, ml_b, if_neg (fun z => e (nt_i_inj.mp z))]
      · obtain ⟨rfl, hs⟩ := hs
        refine ⟨_, ?_, Or.inl ⟨rfl, hs⟩⟩
        unfold B_X2_goesTo_19
        rw [if_pos (nI_le (Nat.le_refl _) (by omega))]
    obtain ⟨r, h1, h2⟩ := loop
    rw [h1, ml_b]
    rcases h2 with ⟨rfl, h2⟩ | ⟨rfl, h2⟩
    · exact ⟨true, rfl, fun _ => h2, fun _ _ => rfl⟩
    · exact ⟨false, rfl, fun z => absurd z (by decide), fun _ z => absurd z h2⟩
  · rw [if_neg (fun z => c ((nI_eq (by omega) (by omega)).mp z))]
    exact ⟨false, rfl, fun z => absurd z (by decide), fun z => absurd z c⟩
theorem nt_canGoOn : ∀ (d : Nat) {n k g : Nat} {A B : Nat → Nat → Bool} {ra rb at0 : Nat → Int32} {pre : Nat → Nat}, n < 8 → nt_G A → nt_G B → nt_Rep n A ra → nt_Rep n B rb → pm_pre n k g pre → n - k < d → (∀ i, i < k → at0 i = nI (pre i)) → (∀ i j, i < k → j < k → A i j = B (pre i) (pre j)) → ∃ b at', M_X2_canGoOn d (nI k) (nI g) (nI n) ra (nI n) rb at0 = some (nt_i b, at') ∧ (∀ i, i < k → at' i = at0 i) ∧ (b = true ↔ pm_iso n A B k pre)
  | 0, _, _, _, _, _, _, _, _, _, _, _, _, _, _, _, hd, _, _ => absurd hd (Nat.not_lt_zero _)
  | d + 1, n, k, g, A, B, ra, rb, at0, pre, hn, hGA, hGB, ha, hb, hp, hd, hat, hag => by
    by_cases hk : k < n
    · have loop : ∃ r, on_loop (fun (s : Int32 × (Nat → Int32)) => B_X2_canGoOn_13 (M_X2_canGoOn d) (nI k) (nI g) (nI n) ra (nI n) rb s.1 s.2) on_F ((0 : Int32), at0) = some r ∧ ∃ at', (∀ i, i < k → at' i = at0 i) ∧ ((r = Sum.inr at' ∧ ∀ x, x < n → ¬ pm_iso n A B (k + 1) (pm_put pre k x)) ∨ (r = Sum.inl ((1 : Int32), at') ∧ ∃ x, x < n ∧ pm_iso n A B (k + 1) (pm_put pre k x))) := by
        refine ml_invF (fun i s => ∃ at', s = (nI i, at') ∧ (∀ i, i < k → at' i = at0 i) ∧ ∀ x, x < i → ¬ pm_iso n A B (k + 1) (pm_put pre k x)) _ n (by omega) (fun i s hi hs => ?_) (fun s hs => ?_) ⟨at0, rfl, fun _ _ => rfl, fun x hx => absurd hx (Nat.not_lt_zero x)⟩
        · obtain ⟨at1, rfl, i1, i2⟩ := hs
          have hat1 : ∀ j, j < k → at1 j = nI (pre j) := fun j hj => (i1 j hj).trans (hat j hj)
          cases hbt : g.testBit i with
          | true =>
            refine Or.inl ⟨(nI (i + 1), at1), ?_, at1, rfl, i1, fun x hx => ?_⟩
            · show B_X2_canGoOn_13 (M_X2_canGoOn d) (nI k) (nI g) (nI n) ra (nI n) rb (nI i) at1 = _
              unfold B_X2_canGoOn_13
              rw [if_neg (nI_ge hi (by omega)), nt_shr g hp.2.1 i (by omega), hbt, if_neg (by decide), ml_let, nI_1]
            · by_cases e : x = i
              · rintro ⟨m, m1, m2, _⟩
                obtain ⟨j, j1, j2⟩ := (hp.2.2.2.2 i hi).mp hbt
                have e1 := m2 j (by omega)
                have e2 := m2 k (by omega)
                rw [pm_put_ne (by omega), j2] at e1
                rw [pm_put_at, e] at e2
                have := pm_inj m1 (show j < n by omega) hk (e1.trans e2.symm)
                omega
              · exact i2 x (by omega)
          | false =>
            obtain ⟨b, g1, g2, g3⟩ := nt_goesTo hn ha hb hk hi hp.2.2.1 hat1
            have hno : b = false → ¬ pm_iso n A B (k + 1) (pm_put pre k i) := by
              rintro hbf ⟨m, m1, m2, m3⟩
              have e2 : pa m k = i := by rw [m2 k (by omega), pm_put_at]
              have := g3 (by rw [← e2]; exact pm_iso_dg m1 m3 hk) (fun j hj => by
                have e1 : pa m j = pre j := by rw [m2 j (by omega), pm_put_ne (by omega)]
                rw [m3 j k (by omega) hk]
                unfold pm_arr
                rw [e1, e2])
              rw [hbf] at this
              exact absurd this (by decide)
            cases b with
            | false =>
              refine Or.inl ⟨(nI (i + 1), at1), ?_, at1, rfl, i1, fun x hx => ?_⟩
              · show B_X2_canGoOn_13 (M_X2_canGoOn d) (nI k) (nI g) (nI n) ra (nI n) rb (nI i) at1 = _
                unfold B_X2_canGoOn_13
                rw [if_neg (nI_ge hi (by omega)), nt_shr g hp.2.1 i (by omega), hbt, if_pos nt_i0, g1, ml_b, if_pos nt_i0, ml_let, nI_1]
              · by_cases e : x = i
                · rw [e]; exact hno rfl
                · exact i2 x (by omega)
            | true =>
              have hg := g2 rfl
              have hp2 := pm_pre_put hn hp hk hi hbt
              obtain ⟨b, at2, r1, r2, r3⟩ := nt_canGoOn d (at0 := upd at1 k (nI i)) hn hGA hGB ha hb hp2 (by omega) (fun j hj => by
                  by_cases e : j = k
                  · rw [e, pm_put_at]
                    exact if_pos rfl
                  · rw [pm_put_ne e]
                    exact (if_neg e).trans (hat1 j (by omega)))
                (fun u v hu hv => by
                  by_cases eu : u = k
                  · by_cases ev : v = k
                    · rw [eu, ev, hGA.2, hGB.2]
                    · rw [eu, pm_put_at, pm_put_ne ev, hGA.1, hGB.1]
                      exact hg v (by omega)
                  · by_cases ev : v = k
                    · rw [ev, pm_put_at, pm_put_ne eu]
                      exact hg u (by omega)
                    · rw [pm_put_ne eu, pm_put_ne ev]
                      exact hag u v (by omega) (by omega))
              have hat2 : ∀ j, j < k → at2 j = at0 j := fun j hj => by
                rw [r2 j (by omega), ← i1 j hj]
                exact if_neg (by omega)
              cases b with
              | false =>
                refine Or.inl ⟨(nI (i + 1), at2), ?_, at2, rfl, hat2, fun x hx => ?_⟩
                · show B_X2_canGoOn_13 (M_X2_canGoOn d) (nI k) (nI g) (nI n) ra (nI n) rb (nI i) at1 = _
                  unfold B_X2_canGoOn_13
                  rw [if_neg (nI_ge hi (by omega)), nt_shr g hp.2.1 i (by omega), hbt, if_pos nt_i0, g1, ml_b, if_neg (by decide), ml_gi (by omega) (by omega), nI_clamp (by omega), nI_1, nt_setb g hp.2.1 i (by omega), r1, ml_b, if_pos nt_i0, ml_let, nI_1]
                · by_cases e : x = i
                  · rw [e]
                    exact fun z => absurd (r3.mpr z) (by decide)
                  · exact i2 x (by omega)
              | true =>
                refine Or.inr ⟨_, ?_, at2, hat2, Or.inr ⟨rfl, i, hi, r3.mp rfl⟩⟩
                show B_X2_canGoOn_13 (M_X2_canGoOn d) (nI k) (nI g) (nI n) ra (nI n) rb (nI i) at1 = _
                unfold B_X2_canGoOn_13
                rw [if_neg (nI_ge hi (by omega)), nt_shr g hp.2.1 i (by omega), hbt, if_pos nt_i0, g1, ml_b, if_neg (by decide), ml_gi (by omega) (by omega), nI_clamp (by omega), nI_1, nt_setb g hp.2.1 i (by omega), r1, ml_b, if_neg (show ¬ nt_i true = 0 by decide)]
        · obtain ⟨at1, rfl, i1, i2⟩ := hs
          refine ⟨_, ?_, at1, i1, Or.inl ⟨rfl, i2⟩⟩
          show B_X2_canGoOn_13 (M_X2_canGoOn d) (nI k) (nI g) (nI n) ra (nI n) rb (nI n) at1 = _
          unfold B_X2_canGoOn_13
          rw [if_pos (nI_le (Nat.le_refl _) (by omega))]
      obtain ⟨r, h1, at1, h2, h3⟩ := loop
      have hun : M_X2_canGoOn (d + 1) (nI k) (nI g) (nI n) ra (nI n) rb at0 = (some r).bind (Sum.elim some (fun u_13 => (some ((0 : Int32), u_13)))) := by
        rw [M_X2_canGoOn]
        show (if nI k < nI n then _ else _) = _
        rw [if_pos (nI_lt hk (by omega)), h1]
      rcases h3 with ⟨rfl, h3⟩ | ⟨rfl, x, hx, m, m1, m2, m3⟩
      · refine ⟨false, at1, by rw [hun]; rfl, h2, fun z => absurd z (by decide), ?_⟩
        rintro ⟨m, m1, m2, m3⟩
        exact absurd ⟨m, m1, fun j hj => by
          by_cases e : j = k
          · rw [e, pm_put_at]
          · rw [pm_put_ne e]; exact m2 j (by omega), m3⟩ (h3 (pa m k) (pm_lt m1 hk))
      · exact ⟨true, at1, by rw [hun]; rfl, h2, fun _ => ⟨m, m1, fun j hj => by rw [m2 j (by omega), pm_put_ne (by omega)], m3⟩, fun _ => rfl⟩
    · have hkn : k = n := by have := hp.1; omega
      subst hkn
      refine ⟨true, at0, ?_, fun _ _ => rfl, fun _ => ⟨_, pm_pre_full hp, fun i hi => pm_mk_at hi, fun p q hp hq => ?_⟩, fun _ => rfl⟩
      · rw [M_X2_canGoOn]
        show (if nI k < nI k then _ else _) = _
        rw [if_neg (nI_nlt (Nat.le_refl _) (by omega))]
        rfl
      · unfold pm_arr
        rw [pm_mk_at hp, pm_mk_at hq]
        exact hag p q hp hq
