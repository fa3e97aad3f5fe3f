/-! ===== renumberings: lists of the nodes, in any order ===== -/
def pm_P (n : Nat) (m : List Nat) : Prop := m.Perm (List.range n)
def pa (m : List Nat) (i : Nat) : Nat := m.getD i 0
theorem pm_len {n : Nat} {m : List Nat} (h : pm_P n m) : m.length = n := by
  have := h.length_eq
  rw [List.length_range] at this
  exact this
theorem pm_nd {n : Nat} {m : List Nat} (h : pm_P n m) : m.Nodup := (h.nodup_iff).mpr List.nodup_range
theorem pa_get {m : List Nat} {i : Nat} (h : i < m.length) : pa m i = m[i] := by
  unfold pa
  rw [List.getD_eq_getElem?_getD, List.getElem?_eq_getElem h]
  rfl
theorem pm_lt {n : Nat} {m : List Nat} (h : pm_P n m) {i : Nat} (hi : i < n) : pa m i < n := by
  have hl : i < m.length := by rw [pm_len h]; exact hi
  rw [pa_get hl]
  exact List.mem_range.mp (h.mem_iff.mp (List.getElem_mem hl))
theorem pm_inj {n : Nat} {m : List Nat} (h : pm_P n m) {i j : Nat} (hi : i < n) (hj : j < n) (e : pa m i = pa m j) : i = j := by
  have hl : i < m.length := by rw [pm_len h]; exact hi
  have hk : j < m.length := by rw [pm_len h]; exact hj
  rw [pa_get hl, pa_get hk] at e
  have h1 := (pm_nd h).idxOf_getElem i hl
  have h2 := (pm_nd h).idxOf_getElem j hk
  rw [e, h2] at h1
  exact h1.symm
theorem pm_sur {n : Nat} {m : List Nat} (h : pm_P n m) {u : Nat} (hu : u < n) : ∃ i, i < n ∧ pa m i = u := by
  have hm : u ∈ m := h.mem_iff.mpr (List.mem_range.mpr hu)
  obtain ⟨i, hi, e⟩ := List.getElem_of_mem hm
  exact ⟨i, by rw [← pm_len h]; exact hi, by rw [pa_get hi]; exact e⟩
theorem pm_ext {n : Nat} {a b : List Nat} (ha : a.length = n) (hb : b.length = n) (h : ∀ i, i < n → pa a i = pa b i) : a = b := by
  apply List.ext_getElem (by rw [ha, hb])
  intro i h1 h2
  have := h i (by omega)
  rw [pa_get h1, pa_get h2] at this
  exact this
def pm_mk (n : Nat) (f : Nat → Nat) : List Nat := (List.range n).map f
theorem pm_mk_len (n : Nat) (f : Nat → Nat) : (pm_mk n f).length = n := by unfold pm_mk; rw [List.length_map, List.length_range]
theorem pm_mk_at {n : Nat} {f : Nat → Nat} {i : Nat} (hi : i < n) : pa (pm_mk n f) i = f i := by
  rw [pa_get (by rw [pm_mk_len]; exact hi)]
  unfold pm_mk
  rw [List.getElem_map, List.getElem_range]
theorem pm_mk_P {n : Nat} {f : Nat → Nat} (h1 : ∀ i, i < n → f i < n) (h2 : ∀ i j, i < n → j < n → f i = f j → i = j) : pm_P n (pm_mk n f) := by
  have hnd : (pm_mk n f).Nodup := by
    unfold pm_mk
    rw [List.nodup_iff_pairwise_ne, List.pairwise_map]
    have hr : (List.range n).Pairwise (fun a b => a ≠ b) := List.nodup_range
    refine List.Pairwise.imp_of_mem (fun {a b} ha hb hab => ?_) hr
    exact fun e => hab (h2 a b (List.mem_range.mp ha) (List.mem_range.mp hb) e)
  refine (List.perm_ext_iff_of_nodup hnd List.nodup_range).mpr (fun a => ?_)
  rw [List.mem_range]
  constructor
  · intro ha
    unfold pm_mk at ha
    obtain ⟨i, hi, rfl⟩ := List.mem_map.mp ha
    exact h1 i (List.mem_range.mp hi)
  · intro ha
    obtain ⟨i, hi, e⟩ := fb_onto (f := f) (n := n) h1 (fun i j hij hj e => by have := h2 i j (by omega) hj e; omega) ha
    exact List.mem_map.mpr ⟨i, List.mem_range.mpr hi, e⟩
theorem pm_mk_self {n : Nat} {m : List Nat} (h : pm_P n m) : pm_mk n (pa m) = m := pm_ext (pm_mk_len n _) (pm_len h) (fun i hi => pm_mk_at hi)
def pm_id (n : Nat) : List Nat := pm_mk n (fun i => i)
theorem pm_id_P (n : Nat) : pm_P n (pm_id n) := pm_mk_P (fun _ h => h) (fun _ _ _ _ e => e)
theorem pm_id_at {n i : Nat} (hi : i < n) : pa (pm_id n) i = i := pm_mk_at hi
/-- first t's place, then s's -/
def pm_c (n : Nat) (t s : List Nat) : List Nat := pm_mk n (fun i => pa t (pa s i))
theorem pm_c_P {n : Nat} {t s : List Nat} (ht : pm_P n t) (hs : pm_P n s) : pm_P n (pm_c n t s) :=
  pm_mk_P (fun _ h => pm_lt ht (pm_lt hs h)) (fun _ _ hi hj e => pm_inj hs hi hj (pm_inj ht (pm_lt hs hi) (pm_lt hs hj) e))
theorem pm_c_at {n : Nat} {t s : List Nat} {i : Nat} (hi : i < n) : pa (pm_c n t s) i = pa t (pa s i) := pm_mk_at hi
def pm_v (n : Nat) (m : List Nat) : List Nat := pm_mk n (fun u => m.idxOf u)
theorem pm_idx_lt {n : Nat} {m : List Nat} (h : pm_P n m) {u : Nat} (hu : u < n) : m.idxOf u < n := by
  have := List.idxOf_lt_length_of_mem (h.mem_iff.mpr (List.mem_range.mpr hu))
  rw [pm_len h] at this
  exact this
theorem pm_at_idx {n : Nat} {m : List Nat} (h : pm_P n m) {u : Nat} (hu : u < n) : pa m (m.idxOf u) = u := by
  have hl := List.idxOf_lt_length_of_mem (h.mem_iff.mpr (List.mem_range.mpr hu))
  rw [pa_get hl]
  exact List.getElem_idxOf hl
theorem pm_idx_at {n : Nat} {m : List Nat} (h : pm_P n m) {i : Nat} (hi : i < n) : m.idxOf (pa m i) = i :=
  pm_inj h (pm_idx_lt h (pm_lt h hi)) hi (pm_at_idx h (pm_lt h hi))
theorem pm_v_P {n : Nat} {m : List Nat} (h : pm_P n m) : pm_P n (pm_v n m) :=
  pm_mk_P (fun _ hu => pm_idx_lt h hu) (fun u v hu hv e => by rw [← pm_at_idx h hu, e, pm_at_idx h hv])
theorem pm_v_at {n : Nat} {m : List Nat} {u : Nat} (hu : u < n) : pa (pm_v n m) u = m.idxOf u := pm_mk_at hu
theorem pm_vl {n : Nat} {m : List Nat} (h : pm_P n m) {i : Nat} (hi : i < n) : pa (pm_v n m) (pa m i) = i := by
  rw [pm_v_at (pm_lt h hi), pm_idx_at h hi]
theorem pm_vr {n : Nat} {m : List Nat} (h : pm_P n m) {u : Nat} (hu : u < n) : pa m (pa (pm_v n m) u) = u := by
  rw [pm_v_at hu, pm_at_idx h hu]
theorem pm_vv {n : Nat} {m : List Nat} (h : pm_P n m) : pm_v n (pm_v n m) = m := by
  refine pm_ext (pm_mk_len n _) (pm_len h) (fun i hi => ?_)
  have hv := pm_v_P h
  exact pm_inj hv (pm_lt (pm_v_P hv) hi) (pm_lt h hi) (by rw [pm_vr hv hi, pm_vl h hi])
/-! ===== all of them, in a list ===== -/
def pm_all : Nat → List Nat → List (List Nat)
  | 0, _ => [[]]
  | m + 1, av => av.flatMap fun x => (pm_all m (av.erase x)).map (fun l => x :: l)
theorem pm_all_mem : ∀ (m : Nat) (av l : List Nat), av.length = m → (l ∈ pm_all m av ↔ l.Perm av)
  | 0, av, l, h => by
    have : av = [] := List.length_eq_zero_iff.mp h
    subst this
    show l ∈ [[]] ↔ _
    rw [List.mem_singleton, List.perm_nil]
  | m + 1, av, l, h => by
    show l ∈ av.flatMap _ ↔ _
    rw [List.mem_flatMap]
    constructor
    · rintro ⟨x, hx, hl⟩
      obtain ⟨l', hl', rfl⟩ := List.mem_map.mp hl
      have he : (av.erase x).length = m := by rw [List.length_erase_of_mem hx, h]; rfl
      exact List.cons_perm_iff_perm_erase.mpr ⟨hx, (pm_all_mem m (av.erase x) l' he).mp hl'⟩
    · intro hp
      cases l with
      | nil =>
        have := hp.length_eq
        rw [h] at this
        cases this
      | cons x l' =>
        obtain ⟨hx, hp2⟩ := List.cons_perm_iff_perm_erase.mp hp
        have he : (av.erase x).length = m := by rw [List.length_erase_of_mem hx, h]; rfl
        exact ⟨x, hx, List.mem_map.mpr ⟨l', (pm_all_mem m (av.erase x) l' he).mpr hp2, rfl⟩⟩
theorem pm_all_nd : ∀ (m : Nat) (av : List Nat), av.Nodup → (pm_all m av).Nodup
  | 0, _, _ => by
    show ([[]] : List (List Nat)).Nodup
    simp
  | m + 1, av, h => by
    show (av.flatMap _).Nodup
    rw [List.nodup_iff_pairwise_ne, List.pairwise_flatMap]
    constructor
    · intro x _
      have h1 := pm_all_nd m (av.erase x) (h.erase x)
      rw [List.nodup_iff_pairwise_ne] at h1
      rw [List.pairwise_map]
      exact h1.imp (fun {a b} hab e => hab (List.cons.inj e).2)
    · rw [List.nodup_iff_pairwise_ne] at h
      refine h.imp (fun {a b} hab x hx y hy e => ?_)
      obtain ⟨l1, -, rfl⟩ := List.mem_map.mp hx
      obtain ⟨l2, -, rfl⟩ := List.mem_map.mp hy
      exact hab (List.cons.inj e).1
def pm_L (n : Nat) : List (List Nat) := pm_all n (List.range n)
theorem pm_L_mem {n : Nat} {l : List Nat} : l ∈ pm_L n ↔ pm_P n l := pm_all_mem n (List.range n) l List.length_range
theorem pm_L_nd (n : Nat) : (pm_L n).Nodup := pm_all_nd n _ List.nodup_range
theorem pm_sublen {α : Type} [DecidableEq α] : ∀ (X Y : List α), X.Nodup → (∀ x ∈ X, x ∈ Y) → X.length ≤ Y.length
  | [], _, _, _ => Nat.zero_le _
  | x :: t, Y, hn, h => by
    have hx := h x List.mem_cons_self
    have hn2 := List.nodup_cons.mp hn
    have ih := pm_sublen t (Y.erase x) hn2.2 (fun z hz => (List.mem_erase_of_ne (fun e => hn2.1 (by rw [← e]; exact hz))).mpr (h z (List.mem_cons_of_mem x hz)))
    rw [List.length_erase_of_mem hx] at ih
    have hp : 0 < Y.length := List.length_pos_of_mem hx
    show t.length + 1 ≤ Y.length
    omega
def pm_n (n : Nat) (P : List Nat → Bool) : Nat := ((pm_L n).filter P).length
theorem pm_n_le {n : Nat} {P Q : List Nat → Bool} (f : List Nat → List Nat) (hf : ∀ l, pm_P n l → P l = true → pm_P n (f l) ∧ Q (f l) = true) (hi : ∀ a b, pm_P n a → pm_P n b → P a = true → P b = true → f a = f b → a = b) : pm_n n P ≤ pm_n n Q := by
  unfold pm_n
  have hmem : ∀ l, l ∈ (pm_L n).filter P → pm_P n l ∧ P l = true := fun l h => ⟨pm_L_mem.mp (List.mem_filter.mp h).1, (List.mem_filter.mp h).2⟩
  have hnd : (((pm_L n).filter P).map f).Nodup := by
    have h0 := (pm_L_nd n).filter P
    rw [List.nodup_iff_pairwise_ne, List.pairwise_map]
    refine List.Pairwise.imp_of_mem (fun {a b} ha hb hab e => ?_) h0
    have h1 := hmem a ha
    have h2 := hmem b hb
    exact hab (hi a b h1.1 h2.1 h1.2 h2.2 e)
  have h := pm_sublen (((pm_L n).filter P).map f) ((pm_L n).filter Q) hnd (fun x hx => by
    obtain ⟨l, hl, rfl⟩ := List.mem_map.mp hx
    have h1 := hmem l hl
    have h2 := hf l h1.1 h1.2
    exact List.mem_filter.mpr ⟨pm_L_mem.mpr h2.1, h2.2⟩)
  rw [List.length_map] at h
  exact h
theorem pm_n_cong {n : Nat} {P Q : List Nat → Bool} (h : ∀ l, pm_P n l → P l = Q l) : pm_n n P = pm_n n Q := by
  unfold pm_n
  congr 1
  exact List.filter_congr (fun l hl => h l (pm_L_mem.mp hl))
theorem pm_n_pos {n : Nat} {P : List Nat → Bool} : 0 < pm_n n P ↔ ∃ l, pm_P n l ∧ P l = true := by
  unfold pm_n
  rw [List.length_pos_iff_exists_mem]
  constructor
  · rintro ⟨l, hl⟩
    have := List.mem_filter.mp hl
    exact ⟨l, pm_L_mem.mp this.1, this.2⟩
  · rintro ⟨l, h1, h2⟩
    exact ⟨l, List.mem_filter.mpr ⟨pm_L_mem.mpr h1, h2⟩⟩
theorem pm_n_v {n : Nat} (P : List Nat → Bool) : pm_n n (fun l => P (pm_v n l)) = pm_n n P := by
  apply Nat.le_antisymm
  · exact pm_n_le (pm_v n) (fun l h1 h2 => ⟨pm_v_P h1, h2⟩) (fun a b ha hb _ _ e => by rw [← pm_vv ha, e, pm_vv hb])
  · exact pm_n_le (pm_v n) (fun l h1 h2 => ⟨pm_v_P h1, by show P (pm_v n (pm_v n l)) = true; rw [pm_vv h1]; exact h2⟩) (fun a b ha hb _ _ e => by rw [← pm_vv ha, e, pm_vv hb])
/-- counted by the image of one node -/
theorem pm_n_split {n : Nat} (P : List Nat → Bool) {k : Nat} (hk : k < n) : pm_n n P = fb_sm (fun p => pm_n n (fun l => P l && decide (pa l k = p))) n := by
  have key : ∀ (X : List (List Nat)), (∀ l ∈ X, pa l k < n) → (X.filter P).length = fb_sm (fun p => (X.filter (fun l => P l && decide (pa l k = p))).length) n := by
    intro X
    induction X with
    | nil =>
      intro _
      have h := fb_sm_const 0 n
      rw [Nat.mul_zero] at h
      exact h.symm
    | cons x t ih =>
      intro hX
      have ih2 := ih (fun l hl => hX l (List.mem_cons_of_mem x hl))
      have hx := hX x List.mem_cons_self
      cases hP : P x with
      | false =>
        rw [List.filter_cons_of_neg (by rw [hP]; decide), ih2]
        exact fb_sm_cong (fun p _ => by rw [List.filter_cons_of_neg (by rw [hP]; simp)])
      | true =>
        rw [List.filter_cons_of_pos hP, List.length_cons, ih2]
        have h1 := fb_sm_upd (fun p => (t.filter (fun l => P l && decide (pa l k = p))).length) ((t.filter (fun l => P l && decide (pa l k = pa x k))).length + 1) hx
        have h2 : fb_sm (fun p => ((x :: t).filter (fun l => P l && decide (pa l k = p))).length) n = fb_sm (fun p => if p = pa x k then (t.filter (fun l => P l && decide (pa l k = pa x k))).length + 1 else (t.filter (fun l => P l && decide (pa l k = p))).length) n := fb_sm_cong (fun p _ => by
          by_cases e : p = pa x k
          · subst e
            rw [if_pos rfl, List.filter_cons_of_pos (by rw [hP]; simp), List.length_cons]
          · rw [if_neg e, List.filter_cons_of_neg (by rw [hP]; simp; exact fun z => e z.symm)])
        rw [h2]
        have h3 : (fun p => (t.filter (fun l => P l && decide (pa l k = p))).length) (pa x k) = (t.filter (fun l => P l && decide (pa l k = pa x k))).length := rfl
        omega
  exact key (pm_L n) (fun l hl => pm_lt (pm_L_mem.mp hl) hk)
/-- a count over ranks -/
theorem pm_ct {f : Nat → Bool} : ∀ n : Nat, fb_ct f n = ((List.range n).filter f).length
  | 0 => rfl
  | n + 1 => by
    rw [fb_ct_succ, List.range_succ, List.filter_append, List.length_append, pm_ct n]
    congr 1
    cases h : f n
    · rw [List.filter_cons_of_neg (by rw [h]; decide)]
      rfl
    · rw [List.filter_cons_of_pos h]
      rfl
