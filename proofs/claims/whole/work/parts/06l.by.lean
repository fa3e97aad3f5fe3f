/-! ===== nets that are alike on the nodes that there are ===== -/
def nt_E (n : Nat) (A B : Nat → Nat → Bool) : Prop := ∀ p q, p < n → q < n → A p q = B p q
theorem nt_E_enc {n : Nat} (hn : n < 8) {B : Nat → Nat → Bool} (hB : nt_G B) : nt_E n (nt_adj n (nt_enc n B)) B := fun p q hp hq => by
  by_cases e : p = q
  · subst e
    rw [nt_adj_irr, hB.2]
  · exact nt_adj_enc hn hB.1 hp hq e
theorem nt_E.dg {n : Nat} {A B : Nat → Nat → Bool} (h : nt_E n A B) {p : Nat} (hp : p < n) : sp_dg n A p = sp_dg n B p := fb_ct_cong (fun q hq => h p q hp hq)
theorem nt_allb_cong {f g : Nat → Bool} : ∀ {n : Nat}, (∀ i, i < n → f i = g i) → nt_allb f n = nt_allb g n
  | 0, _ => rfl
  | n + 1, h => by
    show (nt_allb f n && f n) = (nt_allb g n && g n)
    rw [nt_allb_cong (fun i hi => h i (by omega)), h n (by omega)]
theorem nt_E.by {n : Nat} {A B : Nat → Nat → Bool} (h : nt_E n A B) (k : Nat) : sp_by n A k = sp_by n B k := nt_allb_cong (fun p hp => by rw [h.dg hp])
theorem nt_E.od {n : Nat} {A B : Nat → Nat → Bool} (h : nt_E n A B) : sp_od n A = sp_od n B := nt_mk_congr (fun p hp => by rw [h.dg hp])
theorem nt_E.sh {n : Nat} {A B : Nat → Nat → Bool} (h : nt_E n A B) {p q : Nat} (hp : p < n) (hq : q < n) : sp_sh n A p q = sp_sh n B p q := fb_ct_cong (fun j hj => by rw [h p j hp hj, h q j hq hj])
theorem sp_al_cong {S S' : Nat → Nat → Nat} {J J' : Nat → Nat → Bool} : ∀ (l : List (Nat × Nat)) (f : Option Nat), (∀ x ∈ l, S x.1 x.2 = S' x.1 x.2 ∧ J x.1 x.2 = J' x.1 x.2) → sp_al S J l f = sp_al S' J' l f
  | [], _, _ => rfl
  | x :: t, f, h => by
    have h1 := h x List.mem_cons_self
    have h2 := fun y hy => h y (List.mem_cons_of_mem x hy)
    show (if J x.1 x.2 = true then nt_om f (S x.1 x.2) && sp_al S J t (some (S x.1 x.2)) else sp_al S J t f) = (if J' x.1 x.2 = true then nt_om f (S' x.1 x.2) && sp_al S' J' t (some (S' x.1 x.2)) else sp_al S' J' t f)
    rw [h1.1, h1.2, sp_al_cong t _ h2, sp_al_cong t _ h2]
theorem nt_E.ai {n : Nat} {A B : Nat → Nat → Bool} (h : nt_E n A B) (is : Bool) : sp_ai n A is = sp_ai n B is := sp_al_cong _ _ (fun x hx => by
  have hm := nt_PLmem hx
  exact ⟨h.sh (by omega) hm.2, by rw [h x.1 x.2 (by omega) hm.2]⟩)
theorem nt_E.enc {n : Nat} {A B : Nat → Nat → Bool} (h : nt_E n A B) : nt_enc n A = nt_enc n B := nt_enc_congr (fun p q hp hq => h p q (by omega) hq)
theorem nt_E.sw {n : Nat} {A B : Nat → Nat → Bool} (h : nt_E n A B) (s : Nat) : nt_E n (nt_sw A s) (nt_sw B s) := fun p q hp hq => by unfold nt_sw; rw [h p q hp hq]
theorem nt_E.symm {n : Nat} {A B : Nat → Nat → Bool} (h : nt_E n A B) : nt_E n B A := fun p q hp hq => (h p q hp hq).symm
theorem nt_E.trans {n : Nat} {A B C : Nat → Nat → Bool} (h : nt_E n A B) (h2 : nt_E n B C) : nt_E n A C := fun p q hp hq => (h p q hp hq).trans (h2 p q hp hq)
theorem nt_E.mk {n : Nat} {A B : Nat → Nat → Bool} (h : nt_E n A B) {p : Nat} (hp : p < n) : nt_mk n (A p) = nt_mk n (B p) := nt_mk_congr (fun q hq => h p q hp hq)
def sp_pk (n k : Nat) (A : Nat → Nat → Bool) : Nat → Bool := fun t => sp_by n (nt_sw A (2 * t)) k
def sp_ps (n k : Nat) (A : Nat → Nat → Bool) : Nat → Bool := fun t => sp_by n (nt_sw A (2 * t)) k && sp_st n (nt_sw A (2 * t))
theorem nt_mBy {n a k c : Nat} {st : Nat → Int32} (hn : n < 8) (hn3 : 3 ≤ n) (ha : a < 2 ^ nt_np n) (hk : k < 3) (hc : c < 8) (hs : st 0 = nI n) (hs2 : st (1 + k) = nI a) :
    on_loop (fun (s : Int32 × Int32 × Int32 × Int32) => B_X6_by_41 (nI k) (nI c) st s.1 s.2.1 s.2.2.1 s.2.2.2) on_F ((0 : Int32), (0 : Int32), (-6 : Int32), (0 : Int32)) = some (nI (fb_ct (sp_ps n c (nt_adj n a)) (2 ^ (n - 1))), sp_fi (sp_pk n c (nt_adj n a)) (2 ^ (n - 1)), nI (fb_ct (sp_pk n c (nt_adj n a)) (2 ^ (n - 1)))) := by
  have hp := nt_pow2 (show 1 ≤ n by omega)
  have hh := nt_half hn
  have hG := nt_adj_G n a
  refine ml_for (fun i => (nI (fb_ct (sp_ps n c (nt_adj n a)) i), nI (2 * i), sp_fi (sp_pk n c (nt_adj n a)) i, nI (fb_ct (sp_pk n c (nt_adj n a)) i))) (2 ^ (n - 1)) (by omega) rfl (fun i hi => ?_) ?_
  · show B_X6_by_41 (nI k) (nI c) st (nI (fb_ct (sp_ps n c (nt_adj n a)) i)) (nI (2 * i)) (sp_fi (sp_pk n c (nt_adj n a)) i) (nI (fb_ct (sp_pk n c (nt_adj n a)) i)) = _
    have hE := nt_E_enc hn (nt_sw_G hG (2 * i))
    have hby : M_X6_isBy (nI (nt_enc n (nt_sw (nt_adj n a) (2 * i)))) (nI c) st = some (nt_i (sp_pk n c (nt_adj n a) i)) := by
      rw [nt_mIsBy hn hc hs, hE.by]
      rfl
    have hev0 : M_X6_isEvenly (nI (nt_enc n (nt_sw (nt_adj n a) (2 * i)))) (0 : Int32) st = some (nt_i (sp_ai n (nt_sw (nt_adj n a) (2 * i)) false)) := by
      have h := nt_mEvenly (a := nt_enc n (nt_sw (nt_adj n a) (2 * i))) hn false hs
      rw [hE.ai] at h
      exact h
    have hev1 : M_X6_isEvenly (nI (nt_enc n (nt_sw (nt_adj n a) (2 * i)))) (1 : Int32) st = some (nt_i (sp_ai n (nt_sw (nt_adj n a) (2 * i)) true)) := by
      have h := nt_mEvenly (a := nt_enc n (nt_sw (nt_adj n a) (2 * i))) hn true hs
      rw [hE.ai] at h
      exact h
    unfold B_X6_by_41
    rw [nt_many hs, ml_b, nt_sh1 n (by omega), if_neg (nI_ge (by omega) (by omega)), ml_b, nt_netOf hk, ml_b, hs2, nt_switched hn ha (by omega), ml_b, hby, ml_b]
    rw [fb_ct_succ (sp_ps n c (nt_adj n a)) i]
    have hps : sp_ps n c (nt_adj n a) i = (sp_pk n c (nt_adj n a) i && (sp_ai n (nt_sw (nt_adj n a) (2 * i)) true && sp_ai n (nt_sw (nt_adj n a) (2 * i)) false)) := rfl
    rw [hps]
    cases hP : sp_pk n c (nt_adj n a) i with
    | false =>
      have e2 := nt_nofind (P := sp_pk n c (nt_adj n a)) (i := i) hP
      rw [if_pos nt_i0, ml_let, nt_add2, e2.1, e2.2]
      rfl
    | true =>
      rw [if_neg (by decide), nt_find (P := sp_pk n c (nt_adj n a)) (by omega) hP, ml_b, hev0, ml_b, hev1, ml_b]
      cases sp_ai n (nt_sw (nt_adj n a) (2 * i)) false with
      | false =>
        rw [if_pos nt_i0, ml_let, ml_let, nt_add2, nt_n0, nI_add]
        cases sp_ai n (nt_sw (nt_adj n a) (2 * i)) true <;> rfl
      | true =>
        rw [if_neg (by decide)]
        cases sp_ai n (nt_sw (nt_adj n a) (2 * i)) true with
        | false =>
          rw [if_pos nt_i0, ml_let, ml_let, nt_add2, nt_n0, nI_add]
          rfl
        | true =>
          rw [if_neg (by decide), ml_let, ml_let, nt_add2, nI_1]
          rfl
  · show B_X6_by_41 (nI k) (nI c) st _ (nI (2 * 2 ^ (n - 1))) _ _ = _
    unfold B_X6_by_41
    rw [nt_many hs, ml_b, nt_sh1 n (by omega), ← hp, if_pos (nI_le (Nat.le_refl _) (by omega))]
