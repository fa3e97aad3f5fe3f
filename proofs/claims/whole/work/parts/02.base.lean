/-! ===== base: small combinators for the functions that the methods compute ===== -/
def on_gd {α : Type} (b : Bool) (e : Option α) : Option α := match b with
  | true => e
  | false => none
theorem on_gdE {α : Type} {b : Bool} {e : Option α} {x : α} (h : on_gd b e = some x) : b = true ∧ e = some x := by
  cases b with
  | true => exact ⟨rfl, h⟩
  | false => cases h
def on_let {α β : Type} (a : α) (f : α → Option β) : Option β := f a
theorem on_letE {α β : Type} {a v : α} {f : α → Option β} {x : β} (e : v = a) (h : on_let a f = some x) : f v = some x := by
  subst e
  exact h
theorem on_pos {α : Type} {c : Prop} [Decidable c] {a b : Option α} {x : α} (hc : c) (h : (if c then a else b) = some x) : a = some x := by
  rw [if_pos hc] at h
  exact h
theorem on_neg {α : Type} {c : Prop} [Decidable c] {a b : Option α} {x : α} (hc : ¬ c) (h : (if c then a else b) = some x) : b = some x := by
  rw [if_neg hc] at h
  exact h
theorem on_bind {α β : Type} {a : Option α} {f : α → Option β} {x : β} (h : a.bind f = some x) : ∃ q, a = some q ∧ f q = some x := by
  cases a with
  | none => cases h
  | some q => exact ⟨q, rfl, h⟩
def on_loop {σ ρ : Type} (f : σ → Option (σ ⊕ ρ)) : Nat → σ → Option ρ
  | 0, _ => none
  | n + 1, s => (f s).bind (fun y => match y with
    | .inl s' => on_loop f n s'
    | .inr r => some r)
def on_nx {σ ρ : Type} (f : σ → Option (σ ⊕ ρ)) (n : Nat) : σ ⊕ ρ → Option ρ
  | .inl s' => on_loop f n s'
  | .inr r => some r
theorem on_loop0 {σ ρ : Type} {f : σ → Option (σ ⊕ ρ)} {s : σ} {x : ρ} (h : on_loop f 0 s = some x) : False := by cases h
theorem on_loopE {σ ρ : Type} {f : σ → Option (σ ⊕ ρ)} {n : Nat} {s : σ} {x : ρ} (h : on_loop f (n + 1) s = some x) : ∃ y, f s = some y ∧ on_nx f n y = some x := by
  have h2 : (f s).bind (fun y => match y with
    | .inl s' => on_loop f n s'
    | .inr r => some r) = some x := h
  obtain ⟨y, h3, h4⟩ := on_bind h2
  refine ⟨y, h3, ?_⟩
  cases y with
  | inl s' => exact h4
  | inr r => exact h4
def on_ixb (i : Int32) (n : Nat) : Bool := decide (0 ≤ i.toInt) && decide (i.toInt < (n : Int))
theorem on_ixE {i : Int32} {n : Nat} (h : on_ixb i n = true) : vp_in i n := by
  rw [vp_in_iff]
  unfold on_ixb at h
  rw [Bool.and_eq_true] at h
  exact ⟨of_decide_eq_true h.1, of_decide_eq_true h.2⟩
def on_nz (y : Int32) : Bool := decide (¬ y = 0)
theorem on_nzE {y : Int32} (h : on_nz y = true) : ¬ y = 0 := of_decide_eq_true h
def on_nzL (y : Int64) : Bool := decide (¬ y = 0)
theorem on_nzLE {y : Int64} (h : on_nzL y = true) : ¬ y = 0 := of_decide_eq_true h
def on_isb (v : Int32) : Bool := decide (v = 0) || decide (v = 1)
theorem on_isbE {v : Int32} (h : on_isb v = true) : narrow .boolean (.int v) = .int v := by
  unfold on_isb at h
  rw [Bool.or_eq_true] at h
  rcases h with h | h
  · rw [of_decide_eq_true h]; rfl
  · rw [of_decide_eq_true h]; rfl
/-! ===== the words of nest mates ===== -/
def on_nest : List Cond := [.fieldLinkNest RX5 63 "OddNets$Shelf" "many" "I" RX5, .fieldLinkNest RX5 82 "OddNets$Shelf" "numbers" "[I" RX5, .fieldLinkNest RX5 96 "OddNets$Pad" "size" "I" RX5, .fieldLinkNest RX2 15 "OddNets$Net" "many" "I" RX5, .fieldLinkNest RX4 30 "OddNets$Net" "many" "I" RX5, .fieldLinkNest RX5 223 "OddNets$Net" "many" "I" RX5, .fieldLinkNest RX2 53 "OddNets$Net" "rows" "[I" RX5, .fieldLinkNest RX5 230 "OddNets$Net" "rows" "[I" RX5, .fieldLinkNest RX5 197 "OddNets$Table" "rank" "I" RX5, .methodLinkNest RX5 9 yX3_init RX5, .methodLinkNest RX5 22 yX1_init RX5, .methodLinkNest RX5 29 yX0_init RX5, .methodLinkNest RX5 39 yX2_init RX5, .methodLinkNest RX5 46 yX4_init RX5, .methodLinkNest RX5 55 yX3_clear RX5, .methodLinkNest RX5 108 yX0_clear RX5, .methodLinkNest RX5 220 yX0_takeNumber RX5, .methodLinkNest RX0 25 yX5_pairsOf RX5, .methodLinkNest RX5 78 yX0_connect RX5, .methodLinkNest RX5 85 yX0_number RX5, .methodLinkNest RX5 89 yX0_joinedPairs RX5, .methodLinkNest RX5 99 yX1_put RX5, .methodLinkNest RX5 105 yX1_faultFor RX5, .methodLinkNest RX5 109 yX0_takePairs RX5, .methodLinkNest RX0 33 yX1_tells RX5, .methodLinkNest RX5 113 yX0_takeTriples RX5, .methodLinkNest RX5 117 yX0_switchBy RX5, .methodLinkNest RX5 120 yX0_oddTriples RX5, .methodLinkNest RX5 123 yX0_oddTriplesOfEachPair RX5, .methodLinkNest RX5 126 yX0_oddDegrees RX5, .methodLinkNest RX5 129 yX0_degree RX5, .methodLinkNest RX5 132 yX0_oddTriplesAtNode RX5, .methodLinkNest RX5 135 yX0_leaveAlone RX5, .methodLinkNest RX5 138 yX0_drop RX5, .methodLinkNest RX5 141 yX0_joined RX5, .methodLinkNest RX5 145 yX0_oddTriplesAtPair RX5, .methodLinkNest RX5 148 yX0_shared RX5, .methodLinkNest RX5 151 yX0_copySwitched RX5, .methodLinkNest RX5 224 yX0_eachDegreeIs RX5, .methodLinkNest RX5 227 yX0_isStrong RX5, .methodLinkNest RX5 164 yX2_brings RX5, .methodLinkNest RX2 81 yX0_degree RX5, .methodLinkNest RX2 60 yX0_joined RX5, .methodLinkNest RX5 179 yX2_kindOfClass RX5, .methodLinkNest RX2 21 yX5_pairsOf RX5, .methodLinkNest RX2 25 yX0_leaveAlone RX5, .methodLinkNest RX2 56 yX0_areTwins RX5, .methodLinkNest RX5 171 yX2_keepersOfClass RX5, .methodLinkNest RX2 67 yX0_copySwitched RX5, .methodLinkNest RX5 175 yX2_keepersOfNet RX5, .methodLinkNest RX5 187 yX4_fill RX5, .methodLinkNest RX4 33 yX0_joined RX5, .methodLinkNest RX5 190 yX4_eliminate RX5, .methodLinkNest RX5 193 yX4_determinant RX5, .methodLinkNest RX5 200 yX3_copy RX5, .methodLinkNest RX5 204 yX3_isUnused RX5]
def on_isN : Cond → Bool
  | .fieldLinkNest _ _ _ _ _ _ => true
  | .methodLinkNest _ _ _ _ => true
  | _ => false
theorem on_nest_is : on_nest.all on_isN = true := by decide +kernel
def on_N (U : State) : Prop := ∀ w ∈ on_nest, va_Nw w U
theorem on_isN_tab {w : Cond} (h : on_isN w = true) : w.onTables = true := by
  cases w <;> first | rfl | cases h
theorem on_N.warm {s U : State} (hW : s.WarmedH U.vm) (h : on_N s) : on_N U := by
  intro w hw
  have hi := List.all_eq_true.mp on_nest_is w hw
  have hz := h w hw
  cases w <;> first | exact va_Nw.warmF hW hz | exact va_Nw.warmM hW hz | cases hi
theorem on_N.same {u U : State} (hv : u.vm = U.vm) (h : on_N u) : on_N U := by
  intro w hw
  exact va_Nw.same (on_isN_tab (List.all_eq_true.mp on_nest_is w hw)) hv (h w hw)
/-! ===== contracts ===== -/
abbrev on_T (cI cJ cZ cS cA : ClassId) : List (ClassId × FieldType) := [(cI, .int), (cJ, .long), (cZ, .boolean), (cS, .object "OddNets$Shelf"), (cA, .array .long)]
def on_Pre (D : va_G) (T : List (ClassId × FieldType)) (w : va_W) (sz : Nat) (U : State) : Prop :=
  U.heap.size = sz ∧ va_P D vwCl w U.heap ∧ va_K D vwCl T U ∧ va_D (fun _ => True) w ∧ on_N U
def on_Q (D : va_G) (rt : Option Value) (w' : va_W) (A : Nat → Prop) : Array Value → State → Outcome → State → Prop :=
  fun _ st oc t => oc = .returned rt ∧ (va_P D vwCl w' t.heap ∧ va_D A w') ∧ va_F A st t
def on_Con (l : Launch) (y : MethodName) (ws : List Cond) (rm : Room) (av : List Value) (D : va_G) (T : List (ClassId × FieldType)) (w : va_W) (rt : Option Value) (w' : va_W) : Prop :=
  ∀ sz, Met l y ws rm (va_Pc av (on_Pre D T w sz)) (on_Q D rt w' (va_A w sz)) 0 0 (va_A w sz)
theorem on_blind {av : List Value} {D : va_G} {T : List (ClassId × FieldType)} {w : va_W} {sz : Nat} : FrameBlind (va_Pc av (on_Pre D T w sz)) := by
  intro a U g mk q
  obtain ⟨q0, q1, qP, qK, qD, qN⟩ := q
  exact ⟨q0, q1, qP, va_K.moved (u := U) (U := U.calling g mk a) (Vm.Alike.refl U.vm) qK, qD, on_N.same (u := U) rfl qN⟩
theorem on_enter {l : Launch} {y : MethodName} {ws ws' : List Cond} {rm : Room} {av : List Value} {D : va_G} {T : List (ClassId × FieldType)} {w w' : va_W} {rv : Option Value} {cc : ByteArray} {nL : Nat} {rt : Option FieldType} {own : String}
    (hy : plainName y.cls = true) (hown : y.cls = own) (hw : ws = Cond.code y cc nL rt :: ws') (hlen : (lg_sl av).length ≤ nL)
    (body : ∀ (p : Program) (e : Env) (s : State) (m : MethodId) (below : List Frame) (meth : Method) (c : Code) (A : Nat → Prop) (ls : Array Slot),
      p.tables.exec = Jvm.exec → c.code = cc → c.maxLocals = nL → meth.sig.returnType = rt → meth.locks = false → (∀ w ∈ ws, w.before av.toArray s = true) → s.vm.findClass own = some m.cls → (∀ q : Nat, s.heap.size ≤ q → A q) →
      va_K D vwCl T s → on_N s → ∀ (H : Heap) (locs : List Loc), va_P D vwCl w H → va_D A w → va_S A s.heap H locs → lv_has ls nL (lv_args 0 av) →
      W p l e rm s m av.toArray below meth c H locs 0 0 (MQ below (on_Q D rv w' A) av.toArray s 0 0 A) (F0 m 0 ls [])) : on_Con l y ws rm av D T w rv w' := by
  intro sz
  refine Met.ofW (cc := cc) (maxL := nL) (ret := rt) hy hw ?_
  intro p e s m args below meth c s₁ B hml hv
  obtain ⟨rfl, hsz, hP, hK, hD0, hN⟩ := hv
  have hts := atoms_spec (ws := ws) B.pre
  have hown2 : s.vm.findClass y.cls = some m.cls := findClass_of_methodNamed B.named
  rw [hown] at hown2
  subst hsz
  have hl := lv_entry av hlen
  rw [lg_entry_eq]
  exact body p e s m below meth c _ _ B.exec B.bytes hml B.returns B.notSynchronized hts hown2 (fun q h => Or.inr h) hK hN _ _ hP hD0.self va_S.rf hl
theorem on_fm {α : Type} {ws wc : List α} {is : List Nat} (h : is.map (fun i => ws[i]?) = wc.map some) : is.filterMap (fun i => ws[i]?) = wc := by
  have h1 : is.filterMap (fun i => ws[i]?) = (is.map (fun i => ws[i]?)).filterMap id := by rw [List.filterMap_map]; rfl
  rw [h1, h, List.filterMap_map]
  simp
section ONB
variable {p : Program} {l : Launch} {e : Env} {R : Room} {s : State} {m : MethodId} {args : Array Value} {below : List Frame} {meth : Method} {c : Code} {H : Heap} {locs : List Loc} {cells slots : Nat} {Q : State → Prop}
variable {cc : ByteArray} {pc : Nat} {ls : Array Slot} {rest : List Value} {D : va_G} {A : Nat → Prop} {T : List (ClassId × FieldType)} {ws wc wc' wr wf : va_W}
theorem on_iret {v : Int32} {w' : va_W} (hexec : p.tables.exec = Jvm.exec) (hb : c.code = cc) (hr : meth.sig.returnType = some .int) (hlocks : meth.locks = false) (hP : va_P D vwCl w' H) (hD : va_D A w') (hS : va_S A s.heap H locs) (hdg : decode cc pc = .ok (.ireturn, 1)) :
    W p l e R s m args below meth c H locs cells slots (MQ below (on_Q D (some (.int v)) w' A) args s cells slots A) (F0 m pc ls [.int v]) :=
  W.iret hexec hb hr (fun t ht hW => ⟨rfl, ⟨by rw [ht]; exact hP, hD⟩, hS.F ht⟩) hS.2.2 hdg hlocks
theorem on_zret {v : Int32} {w' : va_W} (hexec : p.tables.exec = Jvm.exec) (hb : c.code = cc) (hr : meth.sig.returnType = some .boolean) (hlocks : meth.locks = false) (hP : va_P D vwCl w' H) (hD : va_D A w') (hS : va_S A s.heap H locs) (hg : on_isb v = true) (hdg : decode cc pc = .ok (.ireturn, 1)) :
    W p l e R s m args below meth c H locs cells slots (MQ below (on_Q D (some (.int v)) w' A) args s cells slots A) (F0 m pc ls [.int v]) :=
  W.zret hexec hb hr (on_isbE hg) (fun t ht hW => ⟨rfl, ⟨by rw [ht]; exact hP, hD⟩, hS.F ht⟩) hS.2.2 hdg hlocks
theorem on_lret {v : Int64} {w' : va_W} (hexec : p.tables.exec = Jvm.exec) (hb : c.code = cc) (hr : meth.sig.returnType = some .long) (hlocks : meth.locks = false) (hP : va_P D vwCl w' H) (hD : va_D A w') (hS : va_S A s.heap H locs) (hdg : decode cc pc = .ok (.lreturn, 1)) :
    W p l e R s m args below meth c H locs cells slots (MQ below (on_Q D (some (.long v)) w' A) args s cells slots A) (F0 m pc ls [.long v]) :=
  W.lret hexec hb hr (fun t ht hW => ⟨rfl, ⟨by rw [ht]; exact hP, hD⟩, hS.F ht⟩) hS.2.2 hdg hlocks
theorem on_vret {w' : va_W} (hexec : p.tables.exec = Jvm.exec) (hb : c.code = cc) (hr : meth.sig.returnType = none) (hlocks : meth.locks = false) (hP : va_P D vwCl w' H) (hD : va_D A w') (hS : va_S A s.heap H locs) (hdg : decode cc pc = .ok (.return_, 1)) :
    W p l e R s m args below meth c H locs cells slots (MQ below (on_Q D none w' A) args s cells slots A) (F0 m pc ls []) :=
  W.vret hexec hb hr (fun t ht hW => ⟨rfl, ⟨by rw [ht]; exact hP, hD⟩, hS.F ht⟩) hS.2.2 hdg hlocks
/-- behind a call: the world with the callee's part as it came back -/
theorem on_after {mc ms : Nat} {st0 : List Value} {rt : Option Value} {a : Array Value} (hr : va_Run p l e R s m args below meth c H locs cells slots mc ms (F0 m pc ls st0) rest (on_Q D rt wc' (va_A wc H.size) a) (va_A wc H.size))
    (hP : va_P D vwCl ws H) (hD : va_D A ws) (hS : va_S A s.heap H locs) (hA : ∀ q : Nat, s.heap.size ≤ q → A q) (isC isR isF : List Nat)
    (hC : isC.map (fun i => ws[i]?) = wc.map some) (hR : isR.map (fun i => ws[i]?) = wr.map some) (hn : va_nd isR = true) (hdis : ∀ i ∈ isR, i ∉ isC) (hF : isF.map (fun i => (wr ++ wc')[i]?) = wf.map some) (hnF : va_nd isF = true)
    (kk : ∀ (H1 : Heap) (locs1 : List Loc), va_P D vwCl wf H1 → va_D A wf → va_S A s.heap H1 locs1 → W p l e R s m args below meth c H1 locs1 (cells + mc) (slots + ms) Q (F0 m (pc + 3) ls (rt.toList ++ rest))) :
    W p l e R s m args below meth c H locs cells slots Q (F0 m pc ls st0) := by
  have hFc := va_free (wc := wc) hD hS hA isC hC
  intro T hT X
  obtain ⟨v, st₀, t, T', L, h0, X', hL, e1, e2, ⟨hv, ⟨hP1, hD1⟩, hz, hk⟩, st⟩ := hr T hT X
  cases hv
  rw [h0] at hz hk
  have hk2 : ∀ q : Nat, q < H.size → ¬ va_A wc H.size q → T'.heap[q]? = H[q]? := fun q h1 h2 => by rw [e1]; exact hk q h1 h2
  rw [← e1] at hP1
  obtain ⟨hP2, hD2⟩ := va_join hP hD isC isR hC hR hn hdis hk2 hFc hP1 hD1
  obtain ⟨t2, a1, b1⟩ := kk T'.heap (locs ++ L) (hP2.sub isF (on_fm hF)) (hD2.sub isF hnF hF)
    ⟨Nat.le_trans hS.1 (by rw [e1]; exact hz), fun q h1 h2 => by rw [hk2 q (Nat.lt_of_lt_of_le h1 hS.1) (fun z => h2 (hFc q z))]; exact hS.2.1 q h1 h2, fun q hq => by
      rcases List.mem_append.mp hq with h | h
      · exact hS.2.2 q h
      · exact hFc _ (hL q h)⟩ T' rfl X'
  exact ⟨t2, st t2 a1, b1⟩
/-- behind a call of a method without a world: all is as it was -/
theorem on_after0 {mc ms : Nat} {st0 : List Value} {rt : Option Value} {a : Array Value} (hr : va_Run p l e R s m args below meth c H locs cells slots mc ms (F0 m pc ls st0) rest (on_Q D rt [] (va_A [] H.size) a) (va_A [] H.size))
    (hP : va_P D vwCl ws H) (hS : va_S A s.heap H locs) (hA : ∀ q : Nat, s.heap.size ≤ q → A q)
    (kk : ∀ (H1 : Heap) (locs1 : List Loc), va_P D vwCl ws H1 → va_S A s.heap H1 locs1 → W p l e R s m args below meth c H1 locs1 (cells + mc) (slots + ms) Q (F0 m (pc + 3) ls (rt.toList ++ rest))) :
    W p l e R s m args below meth c H locs cells slots Q (F0 m pc ls st0) := by
  have hge : ∀ q, va_A [] H.size q → H.size ≤ q := by
    intro q h
    rcases h with ⟨k, e, h⟩ | h
    · simp at h
    · exact h
  have hFc : ∀ q, va_A [] H.size q → A q := fun q h => hA q (Nat.le_trans hS.1 (hge q h))
  intro T hT X
  obtain ⟨v, st₀, t, T', L, h0, X', hL, e1, e2, ⟨hv, -, hz, hk⟩, st⟩ := hr T hT X
  cases hv
  rw [h0] at hz hk
  have hk2 : ∀ q : Nat, q < H.size → T'.heap[q]? = H[q]? := fun q h1 => by rw [e1]; exact hk q h1 (fun z => absurd (hge q z) (Nat.not_le.mpr h1))
  obtain ⟨t2, a1, b1⟩ := kk T'.heap (locs ++ L) (hP.kept (fun k q hq => hk2 q.1 (hP k q hq).lt))
    ⟨Nat.le_trans hS.1 (by rw [e1]; exact hz), fun q h1 h2 => by rw [hk2 q (Nat.lt_of_lt_of_le h1 hS.1)]; exact hS.2.1 q h1 h2, fun q hq => by
      rcases List.mem_append.mp hq with h | h
      · exact hS.2.2 q h
      · exact hFc _ (hL q h)⟩ T' rfl X'
  exact ⟨t2, st t2 a1, b1⟩
variable {y : MethodName} {bytes : ByteArray} {maxL nL index n : Nat} {rty : Option FieldType} {wsy : List Cond} {rm : Room} {Ts : List Cond} {own C host : String} {b : Addr} {As : List Value} {rt : Option Value}
/-- the callee's start, out of the caller's world -/
theorem on_preS (hK : va_K D vwCl T s) (hN : on_N s) (hP : va_P D vwCl ws H) (hD : va_D A ws) (isC : List Nat) (hC : isC.map (fun i => ws[i]?) = wc.map some) (hnC : va_nd isC = true) : PreS s H (va_Pc As (on_Pre D T wc H.size)) As :=
  ⟨on_blind, fun U hU hW => ⟨rfl, by rw [hU], by rw [hU]; exact hP.sub isC (on_fm hC), va_K.moved hW.alike hK, (hD.sub isC hnC hC).weaken (fun _ _ _ _ => trivial), on_N.warm hW hN⟩⟩
theorem on_preV {ci q0 : Nat} {q : vw_C} {fs : List Value} (hK : va_K D vwCl T s) (hN : on_N s) (hP : va_P D vwCl ws H) (hD : va_D A ws) (isC : List Nat) (hC : isC.map (fun i => ws[i]?) = wc.map some) (hnC : va_nd isC = true) (hc : vwCl[ci]? = some q) (hq : q.1 = C) (he : ws[q0]? = some (b, .inr (ci, fs))) : PreV s H C b (va_Pc (.ref b :: As) (on_Pre D T wc H.size)) As := by
  subst hq
  exact ⟨on_blind, va_recv hK hP hc he, fun U hU hW => ⟨rfl, by rw [hU], by rw [hU]; exact hP.sub isC (on_fm hC), va_K.moved hW.alike hK, (hD.sub isC hnC hC).weaken (fun _ _ _ _ => trivial), on_N.warm hW hN⟩⟩
theorem on_callV {ci q0 : Nat} {q : vw_C} {fs : List Value} {st0 st1 : List Value} (S : CallFix p m c cc nL s args Ts own) (hC : on_Con l y wsy rm (.ref b :: As) D T wc rt wc') (cw : CallW R s args own C index y bytes maxL rty wsy rm 0 0 n)
    (hK : va_K D vwCl T s) (hN : on_N s) (hP : va_P D vwCl ws H) (hD : va_D A ws) (hS : va_S A s.heap H locs) (hA : ∀ q : Nat, s.heap.size ≤ q → A q) (isC isR isF : List Nat)
    (hCi : isC.map (fun i => ws[i]?) = wc.map some) (hnC : va_nd isC = true) (hR : isR.map (fun i => ws[i]?) = wr.map some) (hn : va_nd isR = true) (hdis : ∀ i ∈ isR, i ∉ isC) (hF : isF.map (fun i => (wr ++ wc')[i]?) = wf.map some) (hnF : va_nd isF = true)
    (hc : vwCl[ci]? = some q) (hq : q.1 = C) (he : ws[q0]? = some (b, .inr (ci, fs))) (hnA : As.length = n) (hsz : ls.size = nL) (hst : st0 = As.reverse ++ .ref b :: rest) (hroom : (rest.map fun v => v.category).sum ≤ 8) (hst1 : rt.toList ++ rest = st1) (hdg : decode cc pc = .ok (.invokevirtual index, 3)) (hf : cells ≤ R.cells ∧ slots ≤ R.slots)
    (kk : ∀ (H1 : Heap) (locs1 : List Loc), va_P D vwCl wf H1 → va_D A wf → va_S A s.heap H1 locs1 → W p l e R s m args below meth c H1 locs1 cells slots Q (F0 m (pc + 3) ls st1)) :
    W p l e R s m args below meth c H locs cells slots Q (F0 m pc ls st0) := by
  subst hst1
  exact on_after (va_runV S (hC H.size) cw (on_preV hK hN hP hD isC hCi hnC hc hq he) rfl hnA hsz hst (lv_room hroom) hdg hf) hP hD hS hA isC isR isF hCi hR hn hdis hF hnF kk
theorem on_callVN {ci q0 : Nat} {q : vw_C} {fs : List Value} {st0 st1 : List Value} (S : CallFix p m c cc nL s args Ts own) (hC : on_Con l y wsy rm (.ref b :: As) D T wc rt wc') (cw : va_CN R s args own index y host bytes maxL rty wsy rm 0 0 n ∧ (Cond.instanceMethod y).before args s = true ∧ (Cond.selects C y y).before args s = true)
    (hK : va_K D vwCl T s) (hN : on_N s) (hP : va_P D vwCl ws H) (hD : va_D A ws) (hS : va_S A s.heap H locs) (hA : ∀ q : Nat, s.heap.size ≤ q → A q) (isC isR isF : List Nat)
    (hCi : isC.map (fun i => ws[i]?) = wc.map some) (hnC : va_nd isC = true) (hR : isR.map (fun i => ws[i]?) = wr.map some) (hn : va_nd isR = true) (hdis : ∀ i ∈ isR, i ∉ isC) (hF : isF.map (fun i => (wr ++ wc')[i]?) = wf.map some) (hnF : va_nd isF = true)
    (hc : vwCl[ci]? = some q) (hq : q.1 = C) (he : ws[q0]? = some (b, .inr (ci, fs))) (hnA : As.length = n) (hsz : ls.size = nL) (hst : st0 = As.reverse ++ .ref b :: rest) (hroom : (rest.map fun v => v.category).sum ≤ 8) (hst1 : rt.toList ++ rest = st1) (hdg : decode cc pc = .ok (.invokevirtual index, 3)) (hf : cells ≤ R.cells ∧ slots ≤ R.slots)
    (kk : ∀ (H1 : Heap) (locs1 : List Loc), va_P D vwCl wf H1 → va_D A wf → va_S A s.heap H1 locs1 → W p l e R s m args below meth c H1 locs1 cells slots Q (F0 m (pc + 3) ls st1)) :
    W p l e R s m args below meth c H locs cells slots Q (F0 m pc ls st0) := by
  subst hst1
  exact on_after (va_runVN S (hC H.size) cw (on_preV hK hN hP hD isC hCi hnC hc hq he) rfl hnA hsz hst (lv_room hroom) hdg hf) hP hD hS hA isC isR isF hCi hR hn hdis hF hnF kk
theorem on_callS {st0 st1 : List Value} (S : CallFix p m c cc nL s args Ts own) (hC : on_Con l y wsy rm As D T wc rt wc') (cw : CallB R s args own index y bytes maxL rty wsy rm 0 0 n ∧ (Cond.static y).before args s = true)
    (hK : va_K D vwCl T s) (hN : on_N s) (hP : va_P D vwCl ws H) (hD : va_D A ws) (hS : va_S A s.heap H locs) (hA : ∀ q : Nat, s.heap.size ≤ q → A q) (isC isR isF : List Nat)
    (hCi : isC.map (fun i => ws[i]?) = wc.map some) (hnC : va_nd isC = true) (hR : isR.map (fun i => ws[i]?) = wr.map some) (hn : va_nd isR = true) (hdis : ∀ i ∈ isR, i ∉ isC) (hF : isF.map (fun i => (wr ++ wc')[i]?) = wf.map some) (hnF : va_nd isF = true)
    (hnA : As.length = n) (hsz : ls.size = nL) (hst : st0 = As.reverse ++ rest) (hroom : (rest.map fun v => v.category).sum ≤ 8) (hst1 : rt.toList ++ rest = st1) (hdg : decode cc pc = .ok (.invokestatic index, 3)) (hf : cells ≤ R.cells ∧ slots ≤ R.slots)
    (kk : ∀ (H1 : Heap) (locs1 : List Loc), va_P D vwCl wf H1 → va_D A wf → va_S A s.heap H1 locs1 → W p l e R s m args below meth c H1 locs1 cells slots Q (F0 m (pc + 3) ls st1)) :
    W p l e R s m args below meth c H locs cells slots Q (F0 m pc ls st0) := by
  subst hst1
  exact on_after (va_runS S (hC H.size) cw (on_preS hK hN hP hD isC hCi hnC) rfl hnA hsz hst (lv_room hroom) hdg hf) hP hD hS hA isC isR isF hCi hR hn hdis hF hnF kk
theorem on_callSN {st0 st1 : List Value} (S : CallFix p m c cc nL s args Ts own) (hC : on_Con l y wsy rm As D T wc rt wc') (cw : va_CN R s args own index y host bytes maxL rty wsy rm 0 0 n ∧ (Cond.static y).before args s = true ∧ True)
    (hK : va_K D vwCl T s) (hN : on_N s) (hP : va_P D vwCl ws H) (hD : va_D A ws) (hS : va_S A s.heap H locs) (hA : ∀ q : Nat, s.heap.size ≤ q → A q) (isC isR isF : List Nat)
    (hCi : isC.map (fun i => ws[i]?) = wc.map some) (hnC : va_nd isC = true) (hR : isR.map (fun i => ws[i]?) = wr.map some) (hn : va_nd isR = true) (hdis : ∀ i ∈ isR, i ∉ isC) (hF : isF.map (fun i => (wr ++ wc')[i]?) = wf.map some) (hnF : va_nd isF = true)
    (hnA : As.length = n) (hsz : ls.size = nL) (hst : st0 = As.reverse ++ rest) (hroom : (rest.map fun v => v.category).sum ≤ 8) (hst1 : rt.toList ++ rest = st1) (hdg : decode cc pc = .ok (.invokestatic index, 3)) (hf : cells ≤ R.cells ∧ slots ≤ R.slots)
    (kk : ∀ (H1 : Heap) (locs1 : List Loc), va_P D vwCl wf H1 → va_D A wf → va_S A s.heap H1 locs1 → W p l e R s m args below meth c H1 locs1 cells slots Q (F0 m (pc + 3) ls st1)) :
    W p l e R s m args below meth c H locs cells slots Q (F0 m pc ls st0) := by
  subst hst1
  exact on_after (va_runSN S (hC H.size) cw (on_preS hK hN hP hD isC hCi hnC) rfl hnA hsz hst (lv_room hroom) hdg hf) hP hD hS hA isC isR isF hCi hR hn hdis hF hnF kk
/-- calls of methods without a world -/
theorem on_callS0 {st0 st1 : List Value} (S : CallFix p m c cc nL s args Ts own) (hC : on_Con l y wsy rm As D T [] rt []) (cw : CallB R s args own index y bytes maxL rty wsy rm 0 0 n ∧ (Cond.static y).before args s = true)
    (hK : va_K D vwCl T s) (hN : on_N s) (hP : va_P D vwCl ws H) (hD : va_D A ws) (hS : va_S A s.heap H locs) (hA : ∀ q : Nat, s.heap.size ≤ q → A q)
    (hnA : As.length = n) (hsz : ls.size = nL) (hst : st0 = As.reverse ++ rest) (hroom : (rest.map fun v => v.category).sum ≤ 8) (hst1 : rt.toList ++ rest = st1) (hdg : decode cc pc = .ok (.invokestatic index, 3)) (hf : cells ≤ R.cells ∧ slots ≤ R.slots)
    (kk : ∀ (H1 : Heap) (locs1 : List Loc), va_P D vwCl ws H1 → va_S A s.heap H1 locs1 → W p l e R s m args below meth c H1 locs1 cells slots Q (F0 m (pc + 3) ls st1)) :
    W p l e R s m args below meth c H locs cells slots Q (F0 m pc ls st0) := by
  subst hst1
  exact on_after0 (va_runS S (hC H.size) cw (on_preS hK hN hP hD [] rfl rfl) rfl hnA hsz hst (lv_room hroom) hdg hf) hP hS hA kk
theorem on_callSN0 {st0 st1 : List Value} (S : CallFix p m c cc nL s args Ts own) (hC : on_Con l y wsy rm As D T [] rt []) (cw : va_CN R s args own index y host bytes maxL rty wsy rm 0 0 n ∧ (Cond.static y).before args s = true ∧ True)
    (hK : va_K D vwCl T s) (hN : on_N s) (hP : va_P D vwCl ws H) (hD : va_D A ws) (hS : va_S A s.heap H locs) (hA : ∀ q : Nat, s.heap.size ≤ q → A q)
    (hnA : As.length = n) (hsz : ls.size = nL) (hst : st0 = As.reverse ++ rest) (hroom : (rest.map fun v => v.category).sum ≤ 8) (hst1 : rt.toList ++ rest = st1) (hdg : decode cc pc = .ok (.invokestatic index, 3)) (hf : cells ≤ R.cells ∧ slots ≤ R.slots)
    (kk : ∀ (H1 : Heap) (locs1 : List Loc), va_P D vwCl ws H1 → va_S A s.heap H1 locs1 → W p l e R s m args below meth c H1 locs1 cells slots Q (F0 m (pc + 3) ls st1)) :
    W p l e R s m args below meth c H locs cells slots Q (F0 m pc ls st0) := by
  subst hst1
  exact on_after0 (va_runSN S (hC H.size) cw (on_preS hK hN hP hD [] rfl rfl) rfl hnA hsz hst (lv_room hroom) hdg hf) hP hS hA kk
end ONB
/-! ===== loops, and ends of loops ===== -/
theorem on_nxL {σ ρ : Type} {f : σ → Option (σ ⊕ ρ)} {n : Nat} {s' : σ} {y : σ ⊕ ρ} {x : ρ} (h : some (Sum.inl s') = some y) (hk : on_nx f n y = some x) : on_loop f n s' = some x := by
  have e := Option.some.inj h
  subst e
  exact hk
theorem on_nxR {σ ρ : Type} {f : σ → Option (σ ⊕ ρ)} {n : Nat} {r : ρ} {y : σ ⊕ ρ} {x : ρ} (h : some (Sum.inr r) = some y) (hk : on_nx f n y = some x) : r = x := by
  have e := Option.some.inj h
  subst e
  exact Option.some.inj hk
theorem on_elR {α β γ : Type} {f : α → Option γ} {g : β → Option γ} {v : β} {x : γ} (h : Sum.elim f g (Sum.inr v) = some x) : g v = some x := h
theorem on_elL {α β γ : Type} {f : α → Option γ} {g : β → Option γ} {v : α} {x : γ} (h : Sum.elim f g (Sum.inl v) = some x) : f v = some x := h
def on_F : Nat := 6000
/-! ===== the grid of longs, and the two images ===== -/
def on_rw (r : Nat → Nat) : Nat → Option Nat := fun i => if i < 7 then some (r i) else none
def on_im (a b : Nat) : Nat → Option Nat := fun i => if i = 0 then some a else if i = 1 then some b else none
abbrev on_row (cJ : ClassId) (r : Nat → Nat) (M : Nat → Nat → Int64) (i : Nat) : Nat × va_E := (r i, .inl (cJ, 7, .inr (.inl (M i))))
abbrev on_rows (cJ : ClassId) (r : Nat → Nat) (M : Nat → Nat → Int64) : va_W := [on_row cJ r M 0, on_row cJ r M 1, on_row cJ r M 2, on_row cJ r M 3, on_row cJ r M 4, on_row cJ r M 5, on_row cJ r M 6]
def on_up2 (M : Nat → Nat → Int64) (i : Nat) (f : Nat → Int64) : Nat → Nat → Int64 := fun a => if a = i then f else M a
theorem on_7 {P : Nat → Prop} (h0 : P 0) (h1 : P 1) (h2 : P 2) (h3 : P 3) (h4 : P 4) (h5 : P 5) (h6 : P 6) {k : Nat} (hk : k < 7) : P k := by
  match k, hk with
  | 0, _ => exact h0
  | 1, _ => exact h1
  | 2, _ => exact h2
  | 3, _ => exact h3
  | 4, _ => exact h4
  | 5, _ => exact h5
  | 6, _ => exact h6
theorem on_rowAt (pre post : va_W) {cJ : ClassId} {r : Nat → Nat} {M : Nat → Nat → Int64} {k : Nat} (hk : k < 7) : (pre ++ (on_rows cJ r M ++ post))[pre.length + k]? = some (on_row cJ r M k) := by
  rw [List.getElem?_append_right (Nat.le_add_right _ _), Nat.add_sub_cancel_left]
  exact on_7 (P := fun k => (on_rows cJ r M ++ post)[k]? = some (on_row cJ r M k)) rfl rfl rfl rfl rfl rfl rfl hk
theorem on_rowSet (pre post : va_W) {cJ : ClassId} {r : Nat → Nat} {M : Nat → Nat → Int64} {k : Nat} (hk : k < 7) (f : Nat → Int64) : (pre ++ (on_rows cJ r M ++ post)).set (pre.length + k) (r k, .inl (cJ, 7, .inr (.inl f))) = pre ++ (on_rows cJ r (on_up2 M k f) ++ post) := by
  rw [List.set_append_right _ _ (Nat.le_add_right _ _), Nat.add_sub_cancel_left]
  refine congrArg (fun z => pre ++ z) ?_
  exact on_7 (P := fun k => (on_rows cJ r M ++ post).set k (r k, .inl (cJ, 7, .inr (.inl f))) = on_rows cJ r (on_up2 M k f) ++ post) rfl rfl rfl rfl rfl rfl rfl hk
theorem on_PE {D : va_G} {w w' : va_W} {H : Heap} (e : w = w') (h : va_P D vwCl w H) : va_P D vwCl w' H := e ▸ h
theorem on_DE {A : Nat → Prop} {w w' : va_W} (e : w = w') (h : va_D A w) : va_D A w' := e ▸ h
theorem on_ix7 {i : Int32} {n : Nat} (h : on_ixb i n = true) : i.toNatClampNeg < n := Nat.not_le.mp fun q => on_ixE h (Or.inr q)
theorem on_rwE {r : Nat → Nat} {i : Int32} (h : on_ixb i 7 = true) : va_rf (on_rw r i.toNatClampNeg) = .ref (r i.toNatClampNeg) := by
  unfold on_rw
  rw [if_pos (on_ix7 h)]
  rfl
theorem on_im0 {a b : Nat} {i : Int32} (h : i = 0) : va_rf (on_im a b i.toNatClampNeg) = .ref a := by
  subst h
  rfl
theorem on_im1 {a b : Nat} {i : Int32} (hi : on_ixb i 2 = true) (h : ¬ i = 0) : va_rf (on_im a b i.toNatClampNeg) = .ref b := by
  have e : i = 1 := by
    unfold on_ixb at hi
    rw [Bool.and_eq_true] at hi
    have h1 := of_decide_eq_true hi.1
    have h2 := of_decide_eq_true hi.2
    have h3 : ¬ i.toInt = 0 := fun q => h (Int32.toInt_inj.mp q)
    exact Int32.toInt_inj.mp (show i.toInt = 1 by omega)
  subst e
  rfl
section ONA
variable {p : Program} {l : Launch} {e : Env} {R : Room} {s : State} {m : MethodId} {args : Array Value} {below : List Frame} {meth : Method} {c : Code} {H : Heap} {locs : List Loc} {cells slots : Nat} {Q : State → Prop}
variable {cc : ByteArray} {pc : Nat} {ls : Array Slot} {rest : List Value} {D : va_G} {cl : List vw_C} {a : Nat} {tys : List (ClassId × FieldType)} {ws : va_W}
theorem on_aldA (hexec : p.tables.exec = Jvm.exec) (hb : c.code = cc) (hK : va_K D cl tys s) (hP : va_P D cl ws H) (q0 t0 : Nat) {cA : ClassId} {n : Nat} {f : Nat → Option Nat} (ha : ws[q0]? = some (a, .inl (cA, n, .inr (.inr (.inr (.inr f)))))) (ht : tys[t0]? = some (cA, .array .long)) {i : Int32} (hin : vp_in i n) (hdg : decode cc pc = .ok (.aaload, 1))
    (kk : W p l e R s m args below meth c H locs cells slots Q (F0 m (pc + 1) ls (va_rf (f i.toNatClampNeg) :: rest))) : W p l e R s m args below meth c H locs cells slots Q (F0 m pc ls (.int i :: .ref a :: rest)) := by
  have hlt : i.toNatClampNeg < n := Nat.not_le.mp fun q => hin (Or.inr q)
  exact W.aald (v := va_rf (f i.toNatClampNeg)) (ty := .array .long) hexec hb (hP q0 _ ha) ((hK.2 t0 _ ht).1 n (fun j => va_rf (f j))) rfl (fun q => by cases q) (by show ¬ (i < 0 ∨ (arrV _ _ _).slots.size ≤ _); rw [arrV_size]; exact hin) (by show (arrV _ _ _).slots[_]? = _; rw [arrV_read _ _ hlt]) rfl rfl hdg kk
end ONA
/-! ===== a switch over small numbers ===== -/
theorem on_swOut {x : Int32} {n : Nat} (h : ∀ k, k < n → ¬ x = nI k) (hn : n < 2 ^ 31) : x.toInt < 0 ∨ (n : Int) - 1 < x.toInt := by
  by_cases h0 : x < 0
  · left
    exact (Int32.lt_iff_toInt_lt.mp h0)
  · right
    obtain ⟨j, hj, rfl⟩ := nI_of h0
    rw [nI_toInt hj]
    have : ¬ j < n := fun q => h j q rfl
    omega
