/-! ===== constructors ===== -/
theorem va_AOA.moved {ty : FieldType} {u U : State} (hvm : u.vm.Alike U.vm) (h : va_AOA ty u) : va_AOA ty U := by
  obtain ⟨comp, c, k, h1, h2, h3, h4, h5⟩ := Jvm.Stand.arrayOver_specB h
  obtain ⟨k', hk', he⟩ := hvm.2.2 _ _ h3
  have e1 := va_idx_bare U.vm comp
  have e2 := va_idx_bare u.vm comp
  have e3 : U.vm.bare = u.vm.bare := by first | exact hvm.bare_eq | exact hvm.bare_eq.symm
  rw [e3] at e1
  have hi := (e1.symm.trans e2).trans h2
  have hkind : k'.kind = .array comp (.array ty) := by rw [he]; exact h4
  have f1 : U.vm.findClass (FieldType.array ty).toString = some comp := by rw [hvm.findClass]; exact h1
  have f2 : U.vm.findClass ("[" ++ (FieldType.array ty).toString) = some c := by rw [hvm.findClass]; exact h5
  unfold va_AOA Cond.before Cond.holds
  simp only [Cond.value]
  rw [f1, Option.bind_some]
  refine (congrArg (fun o : Option Nat => (o.bind (fun c => (U.vm.classes[c]?).map fun (k : Class) => match k.kind with | .array _ ty' => decide (ty' = FieldType.array ty) && decide (U.vm.findClass ("[" ++ (FieldType.array ty).toString) = some c) | _ => false) == some true)) hi).trans ?_
  simp [hk', hkind, f2]
def on_AO (U : State) : Prop := va_AO "OddNets$Shelf" U ∧ va_AOA .long U
theorem on_AO.moved {u U : State} (hvm : u.vm.Alike U.vm) (h : on_AO u) : on_AO U := ⟨h.1.moved hvm, h.2.moved hvm⟩
def on_PreI (D : va_G) (T : List (ClassId × FieldType)) (w : va_W) (sz : Nat) (U : State) : Prop := on_Pre D T w sz U ∧ on_AO U
def on_QI (D : va_G) (Wp : va_W → Prop) (A : Nat → Prop) : Array Value → State → Outcome → State → Prop :=
  fun _ st oc t => oc = .returned none ∧ (∃ w', Wp w' ∧ va_P D vwCl w' t.heap ∧ va_D A w') ∧ va_F A st t
def on_ConI (l : Launch) (y : MethodName) (ws : List Cond) (rm : Room) (h0 : Nat) (D : va_G) (T : List (ClassId × FieldType)) (w : va_W) (Wp : va_W → Prop) (mc ms : Nat) : Prop :=
  ∀ sz, Met l y ws rm (va_Pc [.ref h0] (on_PreI D T w sz)) (on_QI D Wp (va_A w sz)) mc ms (va_A w sz)
theorem on_blindI {av : List Value} {D : va_G} {T : List (ClassId × FieldType)} {w : va_W} {sz : Nat} : FrameBlind (va_Pc av (on_PreI D T w sz)) := by
  intro a U g mk q
  obtain ⟨q0, ⟨q1, qP, qK, qD, qN⟩, qA⟩ := q
  exact ⟨q0, ⟨q1, qP, va_K.moved (u := U) (U := U.calling g mk a) (Vm.Alike.refl U.vm) qK, qD, on_N.same (u := U) rfl qN⟩, on_AO.moved (u := U) (U := U.calling g mk a) (Vm.Alike.refl U.vm) qA⟩
theorem on_enterI {l : Launch} {y : MethodName} {ws ws' : List Cond} {rm : Room} {h0 : Nat} {D : va_G} {T : List (ClassId × FieldType)} {w : va_W} {Wp : va_W → Prop} {cc : ByteArray} {nL mc ms : Nat} {own : String}
    (hy : plainName y.cls = true) (hyn : y.name = "<init>") (hown : y.cls = own) (hw : ws = Cond.code y cc nL none :: ws') (hlen : (lg_sl ([.ref h0] : List Value)).length ≤ nL)
    (body : ∀ (p : Program) (e : Env) (s : State) (m : MethodId) (below : List Frame) (meth : Method) (c : Code) (A : Nat → Prop) (ls : Array Slot),
      p.tables.exec = Jvm.exec → c.code = cc → c.maxLocals = nL → meth.sig.returnType = none → meth.locks = false → (∀ w ∈ ws, w.before ([.ref h0] : List Value).toArray s = true) → s.vm.findClass own = some m.cls → meth.name = "<init>" → (∀ q : Nat, s.heap.size ≤ q → A q) →
      va_K D vwCl T s → on_N s → on_AO s → ∀ (H : Heap) (locs : List Loc), va_P D vwCl w H → va_D A w → va_S A s.heap H locs → lv_has ls nL (lv_args 0 [.ref h0]) →
      W p l e rm s m ([.ref h0] : List Value).toArray below meth c H locs 0 0 (MQ below (on_QI D Wp A) ([.ref h0] : List Value).toArray s mc ms A) (F0 m 0 ls [])) : on_ConI l y ws rm h0 D T w Wp mc ms := by
  intro sz
  refine Met.ofW (cc := cc) (maxL := nL) (ret := none) hy hw ?_
  intro p e s m args below meth c s₁ B hml hv
  obtain ⟨rfl, ⟨hsz, hP, hK, hD0, hN⟩, hO⟩ := hv
  have hts := atoms_spec (ws := ws) B.pre
  have hown2 : s.vm.findClass y.cls = some m.cls := findClass_of_methodNamed B.named
  have hin : meth.name = y.name := (name_of_methodNamed B.named B.method).1
  rw [hown] at hown2
  rw [hyn] at hin
  subst hsz
  have hl := lv_entry ([.ref h0] : List Value) hlen
  rw [lg_entry_eq]
  exact body p e s m below meth c _ _ B.exec B.bytes hml B.returns B.notSynchronized hts hown2 hin (fun q h => Or.inr h) hK hN hO _ _ hP hD0.self va_S.rf hl
section ONC
variable {p : Program} {l : Launch} {e : Env} {R : Room} {s : State} {m : MethodId} {args : Array Value} {below : List Frame} {meth : Method} {c : Code} {H : Heap} {locs : List Loc} {cells slots : Nat} {Q : State → Prop}
variable {cc : ByteArray} {pc : Nat} {ls : Array Slot} {rest : List Value} {D : va_G} {A : Nat → Prop} {T : List (ClassId × FieldType)} {ws wc wr : va_W}
theorem on_retI {Wp : va_W → Prop} {w' : va_W} (hexec : p.tables.exec = Jvm.exec) (hb : c.code = cc) (hr : meth.sig.returnType = none) (hlocks : meth.locks = false) (hW : Wp w') (hP : va_P D vwCl w' H) (hD : va_D A w') (hS : va_S A s.heap H locs) (hdg : decode cc pc = .ok (.return_, 1)) :
    W p l e R s m args below meth c H locs cells slots (MQ below (on_QI D Wp A) args s cells slots A) (F0 m pc ls []) :=
  W.vret hexec hb hr (fun t ht hw => ⟨rfl, ⟨w', hW, by rw [ht]; exact hP, hD⟩, hS.F ht⟩) hS.2.2 hdg hlocks
theorem on_newa {atype : ArrayType} {ty : FieldType} {cT : ClassId} {t0 : Nat} {n : Int32} {N' : Nat} {a0 : vp_A} (hexec : p.tables.exec = Jvm.exec) (hb : c.code = cc) (harr : (Cond.arrayClass (newarray.typeOf atype)).before args s = true) (hty : newarray.typeOf atype = ty) (hK : va_K D vwCl T s) (ht : T[t0]? = some (cT, ty)) (hU : ∀ c, va_RA s c ty → s.vm.findClass ("[" ++ ty.toString) = some c) (hP : va_P D vwCl ws H) (hD : va_D A ws) (hS : va_S A s.heap H locs) (hA : ∀ q, s.heap.size ≤ q → A q)
    (ha : ∀ cA : ClassId, vp_cell cA a0 = arrV cA N' (fun _ => defaultValue ty)) (hn : ¬ n < 0) (hN : n.toNatClampNeg = N') (hbytes : N' * componentBytes ty ≤ 536870912) (hcells : cells + 1 ≤ R.cells) (hslots : slots + N' ≤ R.slots) (hdg : decode cc pc = .ok (.newarray atype, 2))
    (kk : ∀ (q : Nat) (H1 : Heap), va_P D vwCl (ws ++ [(q, .inl (cT, a0))]) H1 → va_D A (ws ++ [(q, .inl (cT, a0))]) → va_S A s.heap H1 locs → W p l e R s m args below meth c H1 locs (cells + 1) (slots + N') Q (F0 m (pc + 2) ls (.ref q :: rest))) : W p l e R s m args below meth c H locs cells slots Q (F0 m pc ls (.int n :: rest)) := by
  refine va_newa hexec hb harr hty hK hP hD hS hA ha hn hN hbytes hcells hslots hdg (fun q cA H1 hK2 hP2 hD2 hS2 => ?_)
  have h1 := hU _ (hK.2 t0 _ ht).2
  have h2 := hU _ (hK2.2 T.length (cA, ty) (by simp)).2
  have e : cA = cT := by
    rw [h1] at h2
    exact (Option.some.inj h2).symm
  subst e
  exact kk q H1 hP2 hD2 hS2
/-- behind a constructor's call -/
theorem on_afterI {mc ms : Nat} {st0 : List Value} {Wp : va_W → Prop} {a : Array Value} (hr : va_Run p l e R s m args below meth c H locs cells slots mc ms (F0 m pc ls st0) rest (on_QI D Wp (va_A wc H.size) a) (va_A wc H.size))
    (hP : va_P D vwCl ws H) (hD : va_D A ws) (hS : va_S A s.heap H locs) (hA : ∀ q : Nat, s.heap.size ≤ q → A q) (isC isR : List Nat)
    (hC : isC.map (fun i => ws[i]?) = wc.map some) (hR : isR.map (fun i => ws[i]?) = wr.map some) (hn : va_nd isR = true) (hdis : ∀ i ∈ isR, i ∉ isC)
    (kk : ∀ (w' : va_W) (H1 : Heap) (locs1 : List Loc), Wp w' → va_P D vwCl (wr ++ w') H1 → va_D A (wr ++ w') → va_S A s.heap H1 locs1 → W p l e R s m args below meth c H1 locs1 (cells + mc) (slots + ms) Q (F0 m (pc + 3) ls rest)) :
    W p l e R s m args below meth c H locs cells slots Q (F0 m pc ls st0) := by
  have hFc := va_free (wc := wc) hD hS hA isC hC
  intro T hT X
  obtain ⟨v, st₀, t, T', L, h0, X', hL, e1, e2, ⟨hv, ⟨w', hW, hP1, hD1⟩, hz, hk⟩, st⟩ := hr T hT X
  cases hv
  rw [h0] at hz hk
  have hk2 : ∀ q : Nat, q < H.size → ¬ va_A wc H.size q → T'.heap[q]? = H[q]? := fun q h1 h2 => by rw [e1]; exact hk q h1 h2
  rw [← e1] at hP1
  obtain ⟨hP2, hD2⟩ := va_join hP hD isC isR hC hR hn hdis hk2 hFc hP1 hD1
  obtain ⟨t2, a1, b1⟩ := kk w' T'.heap (locs ++ L) hW hP2 hD2
    ⟨Nat.le_trans hS.1 (by rw [e1]; exact hz), fun q h1 h2 => by rw [hk2 q (Nat.lt_of_lt_of_le h1 hS.1) (fun z => h2 (hFc q z))]; exact hS.2.1 q h1 h2, fun q hq => by
      rcases List.mem_append.mp hq with h | h
      · exact hS.2.2 q h
      · exact hFc _ (hL q h)⟩ T' rfl X'
  exact ⟨t2, st t2 a1, b1⟩
theorem on_preI {b : Addr} (hK : va_K D vwCl T s) (hN : on_N s) (hO : on_AO s) (hP : va_P D vwCl ws H) (hD : va_D A ws) (isC : List Nat) (hC : isC.map (fun i => ws[i]?) = wc.map some) (hnC : va_nd isC = true) : PreS s H (va_Pc [.ref b] (on_PreI D T wc H.size)) [.ref b] :=
  ⟨on_blindI, fun U hU hW => ⟨rfl, ⟨by rw [hU], by rw [hU]; exact hP.sub isC (on_fm hC), va_K.moved hW.alike hK, (hD.sub isC hnC hC).weaken (fun _ _ _ _ => trivial), on_N.warm hW hN⟩, hO.moved hW.alike⟩⟩
variable {y : MethodName} {bytes : ByteArray} {maxL nL index mc ms : Nat} {wsy : List Cond} {rm : Room} {Ts : List Cond} {own host : String} {b : Addr} {Wp : va_W → Prop}
/-- a constructor of a nest mate -/
theorem on_callIN {st0 : List Value} (S : CallFix p m c cc nL s args Ts own) (hC : on_ConI l y wsy rm b D T wc Wp mc ms) (cw : va_CN R s args own index y host bytes maxL none wsy rm mc ms 0 ∧ y.name = "<init>" ∧ (Cond.instanceMethod y).before args s = true)
    (hK : va_K D vwCl T s) (hN : on_N s) (hO : on_AO s) (hP : va_P D vwCl ws H) (hD : va_D A ws) (hS : va_S A s.heap H locs) (hA : ∀ q : Nat, s.heap.size ≤ q → A q) (isC isR : List Nat)
    (hCi : isC.map (fun i => ws[i]?) = wc.map some) (hnC : va_nd isC = true) (hR : isR.map (fun i => ws[i]?) = wr.map some) (hn : va_nd isR = true) (hdis : ∀ i ∈ isR, i ∉ isC)
    (hsz : ls.size = nL) (hst : st0 = .ref b :: rest) (hroom : (rest.map fun v => v.category).sum ≤ 8) (hdg : decode cc pc = .ok (.invokespecial index, 3)) (hf : cells + mc ≤ R.cells ∧ slots + ms ≤ R.slots)
    (kk : ∀ (w' : va_W) (H1 : Heap) (locs1 : List Loc), Wp w' → va_P D vwCl (wr ++ w') H1 → va_D A (wr ++ w') → va_S A s.heap H1 locs1 → W p l e R s m args below meth c H1 locs1 (cells + mc) (slots + ms) Q (F0 m (pc + 3) ls rest)) :
    W p l e R s m args below meth c H locs cells slots Q (F0 m pc ls st0) :=
  on_afterI (va_runIN (As := []) S (hC H.size) cw (on_preI hK hN hO hP hD isC hCi hnC) rfl rfl hsz hst (lv_room hroom) hdg hf) hP hD hS hA isC isR hCi hR hn hdis kk
theorem on_callI {st0 : List Value} (S : CallFix p m c cc nL s args Ts own) (hC : on_ConI l y wsy rm b D T wc Wp mc ms) (cw : CallB R s args own index y bytes maxL none wsy rm mc ms 0 ∧ y.name = "<init>" ∧ (Cond.instanceMethod y).before args s = true)
    (hK : va_K D vwCl T s) (hN : on_N s) (hO : on_AO s) (hP : va_P D vwCl ws H) (hD : va_D A ws) (hS : va_S A s.heap H locs) (hA : ∀ q : Nat, s.heap.size ≤ q → A q) (isC isR : List Nat)
    (hCi : isC.map (fun i => ws[i]?) = wc.map some) (hnC : va_nd isC = true) (hR : isR.map (fun i => ws[i]?) = wr.map some) (hn : va_nd isR = true) (hdis : ∀ i ∈ isR, i ∉ isC)
    (hsz : ls.size = nL) (hst : st0 = .ref b :: rest) (hroom : (rest.map fun v => v.category).sum ≤ 8) (hdg : decode cc pc = .ok (.invokespecial index, 3)) (hf : cells + mc ≤ R.cells ∧ slots + ms ≤ R.slots)
    (kk : ∀ (w' : va_W) (H1 : Heap) (locs1 : List Loc), Wp w' → va_P D vwCl (wr ++ w') H1 → va_D A (wr ++ w') → va_S A s.heap H1 locs1 → W p l e R s m args below meth c H1 locs1 (cells + mc) (slots + ms) Q (F0 m (pc + 3) ls rest)) :
    W p l e R s m args below meth c H locs cells slots Q (F0 m pc ls st0) :=
  on_afterI (va_runI (As := []) S (hC H.size) cw (on_preI hK hN hO hP hD isC hCi hnC) rfl rfl hsz hst (lv_room hroom) hdg hf) hP hD hS hA isC isR hCi hR hn hdis kk
end ONC
theorem hdX0_init : yX0_init.cls ≠ "java/lang/invoke/MethodHandle" ∧ yX0_init.cls ≠ "java/lang/invoke/VarHandle" ∧ (parseMethodDescriptor yX0_init.desc).map (fun d => d.parameters.length) = some 0 := by decide +kernel
theorem hdX1_init : yX1_init.cls ≠ "java/lang/invoke/MethodHandle" ∧ yX1_init.cls ≠ "java/lang/invoke/VarHandle" ∧ (parseMethodDescriptor yX1_init.desc).map (fun d => d.parameters.length) = some 0 := by decide +kernel
theorem hdX2_init : yX2_init.cls ≠ "java/lang/invoke/MethodHandle" ∧ yX2_init.cls ≠ "java/lang/invoke/VarHandle" ∧ (parseMethodDescriptor yX2_init.desc).map (fun d => d.parameters.length) = some 0 := by decide +kernel
theorem hdX3_init : yX3_init.cls ≠ "java/lang/invoke/MethodHandle" ∧ yX3_init.cls ≠ "java/lang/invoke/VarHandle" ∧ (parseMethodDescriptor yX3_init.desc).map (fun d => d.parameters.length) = some 0 := by decide +kernel
theorem hdX4_init : yX4_init.cls ≠ "java/lang/invoke/MethodHandle" ∧ yX4_init.cls ≠ "java/lang/invoke/VarHandle" ∧ (parseMethodDescriptor yX4_init.desc).map (fun d => d.parameters.length) = some 0 := by decide +kernel
theorem hdX5_init : yX5_init.cls ≠ "java/lang/invoke/MethodHandle" ∧ yX5_init.cls ≠ "java/lang/invoke/VarHandle" ∧ (parseMethodDescriptor yX5_init.desc).map (fun d => d.parameters.length) = some 0 := by decide +kernel
theorem hdX6_init : yX6_init.cls ≠ "java/lang/invoke/MethodHandle" ∧ yX6_init.cls ≠ "java/lang/invoke/VarHandle" ∧ (parseMethodDescriptor yX6_init.desc).map (fun d => d.parameters.length) = some 0 := by decide +kernel
abbrev rm_X3_init : Room := { frames := 1, cells := 1, slots := 3, locals := 12 }
set_option maxHeartbeats 4000000 in
set_option maxRecDepth 100000 in
theorem c_X3_init {l : Launch} {D : va_G} {cI cJ cZ cS cA : ClassId} (h0 : Nat) : on_ConI l yX3_init wsX3_init rm_X3_init h0 D (on_T cI cJ cZ cS cA) [(h0, .inr (3, [.int 0, .null]))] (fun w => ∃ q, w = [(h0, .inr (3, [.int 0, .ref q])), (q, .inl (cI, 3, .inl (fun _ => 0)))]) 1 3 := by
  refine on_enterI (cc := cX3_init) (nL := 1) (own := RX3) (by decide +kernel) rfl rfl rfl (Nat.le_of_ble_eq_true rfl) ?_
  intro p e s m below meth c A ls hx hb hml hr hlk hts hown hin hA hK hN hO H locs hP hD hS hl
  have hl : lv_has ls 1 [(0, .ref h0)] := hl
  generalize hQ : MQ below (on_QI D (fun w => ∃ q, w = [(h0, .inr (3, [.int 0, .ref q])), (q, .inl (cI, 3, .inl (fun _ => 0)))]) A) _ s 1 3 A = Q
  generalize hAr : List.toArray ([.ref h0] : List Value) = args at hts hQ ⊢
  have wF : ∀ w ∈ wsX30, w ∈ wsX3_init := by decide +kernel
  refine lv_aload_n hx hb dX3_init_0 rfl (lv_at hl 0 rfl) ?_
  refine W.objInit hx hb hown (hts (.methodLink RX3 3 objectInit) (by decide +kernel)) (hts (.instanceMethod objectInit) (by decide +kernel)) (hts (.code objectInit ⟨#[0xb1]⟩ 1 none) (List.mem_of_getElem? (i := 3) rfl)) rfl (by rw [hml]; exact hl.1) rfl dX3_init_1 (Nat.le_of_ble_eq_true rfl) (Nat.le_of_ble_eq_true rfl) ?_
  refine W.eq (g2 := F0 m 4 ls []) rfl ?_
  refine lv_aload_n hx hb dX3_init_4 rfl (lv_at hl 0 rfl) ?_
  refine lv_iconst (v := 0) hx hb dX3_init_5 (by decide) ?_
  refine va_put (D := D) (ci := 3) (v := .int 0) (ty := .int) (C := RX3) (T := TX3) (N := 2) hx hb hts wF tyX3 tyX3_ok nmX3 hown hK hP hD hS 0 rfl rfl 0 (by decide) (hts (.fieldLink RX3 9 "OddNets$Shelf" "many" "I") (by decide +kernel)) (fun _ h9 => h9) rfl (by decide +kernel) rfl rfl (Nat.le_of_ble_eq_true rfl) dX3_init_6 (fun H locs hP hD hS => ?_)
  have hP : va_P D vwCl [(h0, .inr (3, [.int 0, .null]))] H := hP
  have hD : va_D A [(h0, .inr (3, [.int 0, .null]))] := hD
  refine lv_aload_n hx hb dX3_init_9 rfl (lv_at hl 0 rfl) ?_
  refine lv_iconst (v := 3) hx hb dX3_init_10 (by decide) ?_
  refine on_newa (atype := .int) (ty := .int) (cT := cI) (t0 := 0) (N' := 3) (a0 := (3, .inl (fun _ => 0))) hx hb (hts (.arrayClass .int) (by decide +kernel)) rfl hK rfl (fun _ h => h) hP hD hS hA (fun _ => rfl) (by decide) (by decide) (by decide) (Nat.le_of_ble_eq_true rfl) (Nat.le_of_ble_eq_true rfl) dX3_init_11 (fun q H hP hD hS => ?_)
  refine W.widen (k := 1) (n := 3) (Nat.le_of_ble_eq_true rfl) (Nat.le_of_ble_eq_true rfl) ?_
  have hP : va_P D vwCl [(h0, .inr (3, [.int 0, .null])), (q, .inl (cI, 3, .inl (fun _ => 0)))] H := hP
  have hD : va_D A [(h0, .inr (3, [.int 0, .null])), (q, .inl (cI, 3, .inl (fun _ => 0)))] := hD
  refine va_putF (D := D) (ci := 3) (v := .ref q) (ty := .array .int) (C := RX3) (T := TX3) (N := 2) hx hb hts wF tyX3 tyX3_ok nmX3 hown hK hP hD hS 0 rfl rfl 1 (by decide) (hts (.fieldLink RX3 15 "OddNets$Shelf" "numbers" "[I") (by decide +kernel)) (fun _ h9 => h9) rfl hin rfl (by decide +kernel) rfl rfl (Nat.le_of_ble_eq_true rfl) dX3_init_13 (fun H locs hP hD hS => ?_)
  have hP : va_P D vwCl [(h0, .inr (3, [.int 0, .ref q])), (q, .inl (cI, 3, .inl (fun _ => 0)))] H := hP
  have hD : va_D A [(h0, .inr (3, [.int 0, .ref q])), (q, .inl (cI, 3, .inl (fun _ => 0)))] := hD
  rw [← hQ]
  exact on_retI hx hb hr hlk ⟨q, rfl⟩ hP hD hS dX3_init_16
abbrev rm_X1_init : Room := { frames := 1, cells := 1, slots := 35, locals := 12 }
set_option maxHeartbeats 4000000 in
set_option maxRecDepth 100000 in
theorem c_X1_init {l : Launch} {D : va_G} {cI cJ cZ cS cA : ClassId} (h0 : Nat) : on_ConI l yX1_init wsX1_init rm_X1_init h0 D (on_T cI cJ cZ cS cA) [(h0, .inr (1, [.int 0, .null]))] (fun w => ∃ q, w = [(h0, .inr (1, [.int 0, .ref q])), (q, .inl (cI, 35, .inl (fun _ => 0)))]) 1 35 := by
  refine on_enterI (cc := cX1_init) (nL := 1) (own := RX1) (by decide +kernel) rfl rfl rfl (Nat.le_of_ble_eq_true rfl) ?_
  intro p e s m below meth c A ls hx hb hml hr hlk hts hown hin hA hK hN hO H locs hP hD hS hl
  have hl : lv_has ls 1 [(0, .ref h0)] := hl
  generalize hQ : MQ below (on_QI D (fun w => ∃ q, w = [(h0, .inr (1, [.int 0, .ref q])), (q, .inl (cI, 35, .inl (fun _ => 0)))]) A) _ s 1 35 A = Q
  generalize hAr : List.toArray ([.ref h0] : List Value) = args at hts hQ ⊢
  have wF : ∀ w ∈ wsX10, w ∈ wsX1_init := by decide +kernel
  refine lv_aload_n hx hb dX1_init_0 rfl (lv_at hl 0 rfl) ?_
  refine W.objInit hx hb hown (hts (.methodLink RX1 3 objectInit) (by decide +kernel)) (hts (.instanceMethod objectInit) (by decide +kernel)) (hts (.code objectInit ⟨#[0xb1]⟩ 1 none) (List.mem_of_getElem? (i := 3) rfl)) rfl (by rw [hml]; exact hl.1) rfl dX1_init_1 (Nat.le_of_ble_eq_true rfl) (Nat.le_of_ble_eq_true rfl) ?_
  refine W.eq (g2 := F0 m 4 ls []) rfl ?_
  refine lv_aload_n hx hb dX1_init_4 rfl (lv_at hl 0 rfl) ?_
  refine lv_iconst (v := 0) hx hb dX1_init_5 (by decide) ?_
  refine va_put (D := D) (ci := 1) (v := .int 0) (ty := .int) (C := RX1) (T := TX1) (N := 2) hx hb hts wF tyX1 tyX1_ok nmX1 hown hK hP hD hS 0 rfl rfl 0 (by decide) (hts (.fieldLink RX1 9 "OddNets$Pad" "size" "I") (by decide +kernel)) (fun _ h9 => h9) rfl (by decide +kernel) rfl rfl (Nat.le_of_ble_eq_true rfl) dX1_init_6 (fun H locs hP hD hS => ?_)
  have hP : va_P D vwCl [(h0, .inr (1, [.int 0, .null]))] H := hP
  have hD : va_D A [(h0, .inr (1, [.int 0, .null]))] := hD
  refine lv_aload_n hx hb dX1_init_9 rfl (lv_at hl 0 rfl) ?_
  refine lv_bipush (v := 35) hx hb dX1_init_10 (by decide) ?_
  refine on_newa (atype := .int) (ty := .int) (cT := cI) (t0 := 0) (N' := 35) (a0 := (35, .inl (fun _ => 0))) hx hb (hts (.arrayClass .int) (by decide +kernel)) rfl hK rfl (fun _ h => h) hP hD hS hA (fun _ => rfl) (by decide) (by decide) (by decide) (Nat.le_of_ble_eq_true rfl) (Nat.le_of_ble_eq_true rfl) dX1_init_12 (fun q H hP hD hS => ?_)
  refine W.widen (k := 1) (n := 35) (Nat.le_of_ble_eq_true rfl) (Nat.le_of_ble_eq_true rfl) ?_
  have hP : va_P D vwCl [(h0, .inr (1, [.int 0, .null])), (q, .inl (cI, 35, .inl (fun _ => 0)))] H := hP
  have hD : va_D A [(h0, .inr (1, [.int 0, .null])), (q, .inl (cI, 35, .inl (fun _ => 0)))] := hD
  refine va_putF (D := D) (ci := 1) (v := .ref q) (ty := .array .int) (C := RX1) (T := TX1) (N := 2) hx hb hts wF tyX1 tyX1_ok nmX1 hown hK hP hD hS 0 rfl rfl 1 (by decide) (hts (.fieldLink RX1 15 "OddNets$Pad" "signs" "[I") (by decide +kernel)) (fun _ h9 => h9) rfl hin rfl (by decide +kernel) rfl rfl (Nat.le_of_ble_eq_true rfl) dX1_init_14 (fun H locs hP hD hS => ?_)
  have hP : va_P D vwCl [(h0, .inr (1, [.int 0, .ref q])), (q, .inl (cI, 35, .inl (fun _ => 0)))] H := hP
  have hD : va_D A [(h0, .inr (1, [.int 0, .ref q])), (q, .inl (cI, 35, .inl (fun _ => 0)))] := hD
  rw [← hQ]
  exact on_retI hx hb hr hlk ⟨q, rfl⟩ hP hD hS dX1_init_17
abbrev rm_X0_init : Room := { frames := 1, cells := 1, slots := 7, locals := 12 }
set_option maxHeartbeats 4000000 in
set_option maxRecDepth 100000 in
theorem c_X0_init {l : Launch} {D : va_G} {cI cJ cZ cS cA : ClassId} (h0 : Nat) : on_ConI l yX0_init wsX0_init rm_X0_init h0 D (on_T cI cJ cZ cS cA) [(h0, .inr (0, [.int 0, .null]))] (fun w => ∃ q, w = [(h0, .inr (0, [.int 0, .ref q])), (q, .inl (cI, 7, .inl (fun _ => 0)))]) 1 7 := by
  refine on_enterI (cc := cX0_init) (nL := 1) (own := RX0) (by decide +kernel) rfl rfl rfl (Nat.le_of_ble_eq_true rfl) ?_
  intro p e s m below meth c A ls hx hb hml hr hlk hts hown hin hA hK hN hO H locs hP hD hS hl
  have hl : lv_has ls 1 [(0, .ref h0)] := hl
  generalize hQ : MQ below (on_QI D (fun w => ∃ q, w = [(h0, .inr (0, [.int 0, .ref q])), (q, .inl (cI, 7, .inl (fun _ => 0)))]) A) _ s 1 7 A = Q
  generalize hAr : List.toArray ([.ref h0] : List Value) = args at hts hQ ⊢
  have wF : ∀ w ∈ wsX00, w ∈ wsX0_init := by decide +kernel
  refine lv_aload_n hx hb dX0_init_0 rfl (lv_at hl 0 rfl) ?_
  refine W.objInit hx hb hown (hts (.methodLink RX0 3 objectInit) (by decide +kernel)) (hts (.instanceMethod objectInit) (by decide +kernel)) (hts (.code objectInit ⟨#[0xb1]⟩ 1 none) (List.mem_of_getElem? (i := 3) rfl)) rfl (by rw [hml]; exact hl.1) rfl dX0_init_1 (Nat.le_of_ble_eq_true rfl) (Nat.le_of_ble_eq_true rfl) ?_
  refine W.eq (g2 := F0 m 4 ls []) rfl ?_
  refine lv_aload_n hx hb dX0_init_4 rfl (lv_at hl 0 rfl) ?_
  refine lv_iconst (v := 0) hx hb dX0_init_5 (by decide) ?_
  refine va_put (D := D) (ci := 0) (v := .int 0) (ty := .int) (C := RX0) (T := TX0) (N := 2) hx hb hts wF tyX0 tyX0_ok nmX0 hown hK hP hD hS 0 rfl rfl 0 (by decide) (hts (.fieldLink RX0 9 "OddNets$Net" "many" "I") (by decide +kernel)) (fun _ h9 => h9) rfl (by decide +kernel) rfl rfl (Nat.le_of_ble_eq_true rfl) dX0_init_6 (fun H locs hP hD hS => ?_)
  have hP : va_P D vwCl [(h0, .inr (0, [.int 0, .null]))] H := hP
  have hD : va_D A [(h0, .inr (0, [.int 0, .null]))] := hD
  refine lv_aload_n hx hb dX0_init_9 rfl (lv_at hl 0 rfl) ?_
  refine lv_bipush (v := 7) hx hb dX0_init_10 (by decide) ?_
  refine on_newa (atype := .int) (ty := .int) (cT := cI) (t0 := 0) (N' := 7) (a0 := (7, .inl (fun _ => 0))) hx hb (hts (.arrayClass .int) (by decide +kernel)) rfl hK rfl (fun _ h => h) hP hD hS hA (fun _ => rfl) (by decide) (by decide) (by decide) (Nat.le_of_ble_eq_true rfl) (Nat.le_of_ble_eq_true rfl) dX0_init_12 (fun q H hP hD hS => ?_)
  refine W.widen (k := 1) (n := 7) (Nat.le_of_ble_eq_true rfl) (Nat.le_of_ble_eq_true rfl) ?_
  have hP : va_P D vwCl [(h0, .inr (0, [.int 0, .null])), (q, .inl (cI, 7, .inl (fun _ => 0)))] H := hP
  have hD : va_D A [(h0, .inr (0, [.int 0, .null])), (q, .inl (cI, 7, .inl (fun _ => 0)))] := hD
  refine va_putF (D := D) (ci := 0) (v := .ref q) (ty := .array .int) (C := RX0) (T := TX0) (N := 2) hx hb hts wF tyX0 tyX0_ok nmX0 hown hK hP hD hS 0 rfl rfl 1 (by decide) (hts (.fieldLink RX0 15 "OddNets$Net" "rows" "[I") (by decide +kernel)) (fun _ h9 => h9) rfl hin rfl (by decide +kernel) rfl rfl (Nat.le_of_ble_eq_true rfl) dX0_init_14 (fun H locs hP hD hS => ?_)
  have hP : va_P D vwCl [(h0, .inr (0, [.int 0, .ref q])), (q, .inl (cI, 7, .inl (fun _ => 0)))] H := hP
  have hD : va_D A [(h0, .inr (0, [.int 0, .ref q])), (q, .inl (cI, 7, .inl (fun _ => 0)))] := hD
  rw [← hQ]
  exact on_retI hx hb hr hlk ⟨q, rfl⟩ hP hD hS dX0_init_17
abbrev rm_X2_init : Room := { frames := 1, cells := 1, slots := 7, locals := 12 }
set_option maxHeartbeats 4000000 in
set_option maxRecDepth 100000 in
theorem c_X2_init {l : Launch} {D : va_G} {cI cJ cZ cS cA : ClassId} (h0 : Nat) : on_ConI l yX2_init wsX2_init rm_X2_init h0 D (on_T cI cJ cZ cS cA) [(h0, .inr (2, [.null]))] (fun w => ∃ q, w = [(h0, .inr (2, [.ref q])), (q, .inl (cI, 7, .inl (fun _ => 0)))]) 1 7 := by
  refine on_enterI (cc := cX2_init) (nL := 1) (own := RX2) (by decide +kernel) rfl rfl rfl (Nat.le_of_ble_eq_true rfl) ?_
  intro p e s m below meth c A ls hx hb hml hr hlk hts hown hin hA hK hN hO H locs hP hD hS hl
  have hl : lv_has ls 1 [(0, .ref h0)] := hl
  generalize hQ : MQ below (on_QI D (fun w => ∃ q, w = [(h0, .inr (2, [.ref q])), (q, .inl (cI, 7, .inl (fun _ => 0)))]) A) _ s 1 7 A = Q
  generalize hAr : List.toArray ([.ref h0] : List Value) = args at hts hQ ⊢
  have wF : ∀ w ∈ wsX20, w ∈ wsX2_init := by decide +kernel
  refine lv_aload_n hx hb dX2_init_0 rfl (lv_at hl 0 rfl) ?_
  refine W.objInit hx hb hown (hts (.methodLink RX2 3 objectInit) (by decide +kernel)) (hts (.instanceMethod objectInit) (by decide +kernel)) (hts (.code objectInit ⟨#[0xb1]⟩ 1 none) (List.mem_of_getElem? (i := 3) rfl)) rfl (by rw [hml]; exact hl.1) rfl dX2_init_1 (Nat.le_of_ble_eq_true rfl) (Nat.le_of_ble_eq_true rfl) ?_
  refine W.eq (g2 := F0 m 4 ls []) rfl ?_
  refine lv_aload_n hx hb dX2_init_4 rfl (lv_at hl 0 rfl) ?_
  refine lv_bipush (v := 7) hx hb dX2_init_5 (by decide) ?_
  refine on_newa (atype := .int) (ty := .int) (cT := cI) (t0 := 0) (N' := 7) (a0 := (7, .inl (fun _ => 0))) hx hb (hts (.arrayClass .int) (by decide +kernel)) rfl hK rfl (fun _ h => h) hP hD hS hA (fun _ => rfl) (by decide) (by decide) (by decide) (Nat.le_of_ble_eq_true rfl) (Nat.le_of_ble_eq_true rfl) dX2_init_7 (fun q H hP hD hS => ?_)
  refine W.widen (k := 1) (n := 7) (Nat.le_of_ble_eq_true rfl) (Nat.le_of_ble_eq_true rfl) ?_
  have hP : va_P D vwCl [(h0, .inr (2, [.null])), (q, .inl (cI, 7, .inl (fun _ => 0)))] H := hP
  have hD : va_D A [(h0, .inr (2, [.null])), (q, .inl (cI, 7, .inl (fun _ => 0)))] := hD
  refine va_putF (D := D) (ci := 2) (v := .ref q) (ty := .array .int) (C := RX2) (T := TX2) (N := 1) hx hb hts wF tyX2 tyX2_ok nmX2 hown hK hP hD hS 0 rfl rfl 0 (by decide) (hts (.fieldLink RX2 9 "OddNets$Renumbering" "at" "[I") (by decide +kernel)) (fun _ h9 => h9) rfl hin rfl (by decide +kernel) rfl rfl (Nat.le_of_ble_eq_true rfl) dX2_init_9 (fun H locs hP hD hS => ?_)
  have hP : va_P D vwCl [(h0, .inr (2, [.ref q])), (q, .inl (cI, 7, .inl (fun _ => 0)))] H := hP
  have hD : va_D A [(h0, .inr (2, [.ref q])), (q, .inl (cI, 7, .inl (fun _ => 0)))] := hD
  rw [← hQ]
  exact on_retI hx hb hr hlk ⟨q, rfl⟩ hP hD hS dX2_init_12
abbrev rm_X6_init : Room := { frames := 1, cells := 7, slots := 112, locals := 12 }
set_option maxHeartbeats 4000000 in
set_option maxRecDepth 100000 in
theorem c_X6_init {l : Launch} {D : va_G} {cI cJ cZ cS cA : ClassId} (h0 : Nat) : on_ConI l yX6_init wsX6_init rm_X6_init h0 D (on_T cI cJ cZ cS cA) [(h0, .inr (6, [.null, .null, .null, .null, .int 0, .int 0, .int 0, .int 0, .null, .null, .null, .int 0, .long 0]))] (fun w => ∃ q0 q1 q2 q3 q8 q9 q10 : Nat, w = [(h0, .inr (6, [.ref q0, .ref q1, .ref q2, .ref q3, .int 0, .int 0, .int 0, .int 0, .ref q8, .ref q9, .ref q10, .int 0, .long 0])), (q0, .inl (cI, 4, .inl (upd (fun _ => 0) 0 5))), (q1, .inl (cI, 8, .inl (fun _ => 0))), (q2, .inl (cZ, 2, .inl (fun _ => 0))), (q3, .inl (cI, 35, .inl (fun _ => 0))), (q8, .inl (cI, 7, .inl (fun _ => 0))), (q9, .inl (cZ, 7, .inl (fun _ => 0))), (q10, .inl (cJ, 49, .inr (.inl (fun _ => 0))))]) 7 112 := by
  refine on_enterI (cc := cX6_init) (nL := 1) (own := RX6) (by decide +kernel) rfl rfl rfl (Nat.le_of_ble_eq_true rfl) ?_
  intro p e s m below meth c A ls hx hb hml hr hlk hts hown hin hA hK hN hO H locs hP hD hS hl
  have hl : lv_has ls 1 [(0, .ref h0)] := hl
  generalize hQ : MQ below (on_QI D (fun w => ∃ q0 q1 q2 q3 q8 q9 q10 : Nat, w = [(h0, .inr (6, [.ref q0, .ref q1, .ref q2, .ref q3, .int 0, .int 0, .int 0, .int 0, .ref q8, .ref q9, .ref q10, .int 0, .long 0])), (q0, .inl (cI, 4, .inl (upd (fun _ => 0) 0 5))), (q1, .inl (cI, 8, .inl (fun _ => 0))), (q2, .inl (cZ, 2, .inl (fun _ => 0))), (q3, .inl (cI, 35, .inl (fun _ => 0))), (q8, .inl (cI, 7, .inl (fun _ => 0))), (q9, .inl (cZ, 7, .inl (fun _ => 0))), (q10, .inl (cJ, 49, .inr (.inl (fun _ => 0))))]) A) _ s 7 112 A = Q
  generalize hAr : List.toArray ([.ref h0] : List Value) = args at hts hQ ⊢
  have wF : ∀ w ∈ wsX60, w ∈ wsX6_init := by decide +kernel
  refine lv_aload_n hx hb dX6_init_0 rfl (lv_at hl 0 rfl) ?_
  refine W.objInit hx hb hown (hts (.methodLink RX6 1 objectInit) (by decide +kernel)) (hts (.instanceMethod objectInit) (by decide +kernel)) (hts (.code objectInit ⟨#[0xb1]⟩ 1 none) (List.mem_of_getElem? (i := 3) rfl)) rfl (by rw [hml]; exact hl.1) rfl dX6_init_1 (Nat.le_of_ble_eq_true rfl) (Nat.le_of_ble_eq_true rfl) ?_
  refine W.eq (g2 := F0 m 4 ls []) rfl ?_
  refine lv_aload_n hx hb dX6_init_4 rfl (lv_at hl 0 rfl) ?_
  refine lv_iconst (v := 4) hx hb dX6_init_5 (by decide) ?_
  refine on_newa (atype := .int) (ty := .int) (cT := cI) (t0 := 0) (N' := 4) (a0 := (4, .inl (fun _ => 0))) hx hb (hts (.arrayClass .int) (by decide +kernel)) rfl hK rfl (fun _ h => h) hP hD hS hA (fun _ => rfl) (by decide) (by decide) (by decide) (Nat.le_of_ble_eq_true rfl) (Nat.le_of_ble_eq_true rfl) dX6_init_6 (fun q0 H hP hD hS => ?_)
  refine W.widen (k := 1) (n := 4) (Nat.le_of_ble_eq_true rfl) (Nat.le_of_ble_eq_true rfl) ?_
  have hP : va_P D vwCl [(h0, .inr (6, [.null, .null, .null, .null, .int 0, .int 0, .int 0, .int 0, .null, .null, .null, .int 0, .long 0])), (q0, .inl (cI, 4, .inl (fun _ => 0)))] H := hP
  have hD : va_D A [(h0, .inr (6, [.null, .null, .null, .null, .int 0, .int 0, .int 0, .int 0, .null, .null, .null, .int 0, .long 0])), (q0, .inl (cI, 4, .inl (fun _ => 0)))] := hD
  refine va_putF (D := D) (ci := 6) (v := .ref q0) (ty := .array .int) (C := RX6) (T := TX6) (N := 13) hx hb hts wF tyX6 tyX6_ok nmX6 hown hK hP hD hS 0 rfl rfl 0 (by decide) (hts (.fieldLink RX6 7 "OddNetsModel" "state" "[I") (by decide +kernel)) (fun _ h9 => h9) rfl hin rfl (by decide +kernel) rfl rfl (Nat.le_of_ble_eq_true rfl) dX6_init_8 (fun H locs hP hD hS => ?_)
  have hP : va_P D vwCl [(h0, .inr (6, [.ref q0, .null, .null, .null, .int 0, .int 0, .int 0, .int 0, .null, .null, .null, .int 0, .long 0])), (q0, .inl (cI, 4, .inl (fun _ => 0)))] H := hP
  have hD : va_D A [(h0, .inr (6, [.ref q0, .null, .null, .null, .int 0, .int 0, .int 0, .int 0, .null, .null, .null, .int 0, .long 0])), (q0, .inl (cI, 4, .inl (fun _ => 0)))] := hD
  refine lv_aload_n hx hb dX6_init_11 rfl (lv_at hl 0 rfl) ?_
  refine lv_bipush (v := 8) hx hb dX6_init_12 (by decide) ?_
  refine on_newa (atype := .int) (ty := .int) (cT := cI) (t0 := 0) (N' := 8) (a0 := (8, .inl (fun _ => 0))) hx hb (hts (.arrayClass .int) (by decide +kernel)) rfl hK rfl (fun _ h => h) hP hD hS hA (fun _ => rfl) (by decide) (by decide) (by decide) (Nat.le_of_ble_eq_true rfl) (Nat.le_of_ble_eq_true rfl) dX6_init_14 (fun q1 H hP hD hS => ?_)
  refine W.widen (k := 2) (n := 12) (Nat.le_of_ble_eq_true rfl) (Nat.le_of_ble_eq_true rfl) ?_
  have hP : va_P D vwCl [(h0, .inr (6, [.ref q0, .null, .null, .null, .int 0, .int 0, .int 0, .int 0, .null, .null, .null, .int 0, .long 0])), (q0, .inl (cI, 4, .inl (fun _ => 0))), (q1, .inl (cI, 8, .inl (fun _ => 0)))] H := hP
  have hD : va_D A [(h0, .inr (6, [.ref q0, .null, .null, .null, .int 0, .int 0, .int 0, .int 0, .null, .null, .null, .int 0, .long 0])), (q0, .inl (cI, 4, .inl (fun _ => 0))), (q1, .inl (cI, 8, .inl (fun _ => 0)))] := hD
  refine va_putF (D := D) (ci := 6) (v := .ref q1) (ty := .array .int) (C := RX6) (T := TX6) (N := 13) hx hb hts wF tyX6 tyX6_ok nmX6 hown hK hP hD hS 0 rfl rfl 1 (by decide) (hts (.fieldLink RX6 13 "OddNetsModel" "images" "[I") (by decide +kernel)) (fun _ h9 => h9) rfl hin rfl (by decide +kernel) rfl rfl (Nat.le_of_ble_eq_true rfl) dX6_init_16 (fun H locs hP hD hS => ?_)
  have hP : va_P D vwCl [(h0, .inr (6, [.ref q0, .ref q1, .null, .null, .int 0, .int 0, .int 0, .int 0, .null, .null, .null, .int 0, .long 0])), (q0, .inl (cI, 4, .inl (fun _ => 0))), (q1, .inl (cI, 8, .inl (fun _ => 0)))] H := hP
  have hD : va_D A [(h0, .inr (6, [.ref q0, .ref q1, .null, .null, .int 0, .int 0, .int 0, .int 0, .null, .null, .null, .int 0, .long 0])), (q0, .inl (cI, 4, .inl (fun _ => 0))), (q1, .inl (cI, 8, .inl (fun _ => 0)))] := hD
  refine lv_aload_n hx hb dX6_init_19 rfl (lv_at hl 0 rfl) ?_
  refine lv_iconst (v := 2) hx hb dX6_init_20 (by decide) ?_
  refine on_newa (atype := .boolean) (ty := .boolean) (cT := cZ) (t0 := 2) (N' := 2) (a0 := (2, .inl (fun _ => 0))) hx hb (hts (.arrayClass .boolean) (by decide +kernel)) rfl hK rfl (fun _ h => h) hP hD hS hA (fun _ => rfl) (by decide) (by decide) (by decide) (Nat.le_of_ble_eq_true rfl) (Nat.le_of_ble_eq_true rfl) dX6_init_21 (fun q2 H hP hD hS => ?_)
  refine W.widen (k := 3) (n := 14) (Nat.le_of_ble_eq_true rfl) (Nat.le_of_ble_eq_true rfl) ?_
  have hP : va_P D vwCl [(h0, .inr (6, [.ref q0, .ref q1, .null, .null, .int 0, .int 0, .int 0, .int 0, .null, .null, .null, .int 0, .long 0])), (q0, .inl (cI, 4, .inl (fun _ => 0))), (q1, .inl (cI, 8, .inl (fun _ => 0))), (q2, .inl (cZ, 2, .inl (fun _ => 0)))] H := hP
  have hD : va_D A [(h0, .inr (6, [.ref q0, .ref q1, .null, .null, .int 0, .int 0, .int 0, .int 0, .null, .null, .null, .int 0, .long 0])), (q0, .inl (cI, 4, .inl (fun _ => 0))), (q1, .inl (cI, 8, .inl (fun _ => 0))), (q2, .inl (cZ, 2, .inl (fun _ => 0)))] := hD
  refine va_putF (D := D) (ci := 6) (v := .ref q2) (ty := .array .boolean) (C := RX6) (T := TX6) (N := 13) hx hb hts wF tyX6 tyX6_ok nmX6 hown hK hP hD hS 0 rfl rfl 2 (by decide) (hts (.fieldLink RX6 16 "OddNetsModel" "isKept" "[Z") (by decide +kernel)) (fun _ h9 => h9) rfl hin rfl (by decide +kernel) rfl rfl (Nat.le_of_ble_eq_true rfl) dX6_init_23 (fun H locs hP hD hS => ?_)
  have hP : va_P D vwCl [(h0, .inr (6, [.ref q0, .ref q1, .ref q2, .null, .int 0, .int 0, .int 0, .int 0, .null, .null, .null, .int 0, .long 0])), (q0, .inl (cI, 4, .inl (fun _ => 0))), (q1, .inl (cI, 8, .inl (fun _ => 0))), (q2, .inl (cZ, 2, .inl (fun _ => 0)))] H := hP
  have hD : va_D A [(h0, .inr (6, [.ref q0, .ref q1, .ref q2, .null, .int 0, .int 0, .int 0, .int 0, .null, .null, .null, .int 0, .long 0])), (q0, .inl (cI, 4, .inl (fun _ => 0))), (q1, .inl (cI, 8, .inl (fun _ => 0))), (q2, .inl (cZ, 2, .inl (fun _ => 0)))] := hD
  refine lv_aload_n hx hb dX6_init_26 rfl (lv_at hl 0 rfl) ?_
  refine lv_bipush (v := 35) hx hb dX6_init_27 (by decide) ?_
  refine on_newa (atype := .int) (ty := .int) (cT := cI) (t0 := 0) (N' := 35) (a0 := (35, .inl (fun _ => 0))) hx hb (hts (.arrayClass .int) (by decide +kernel)) rfl hK rfl (fun _ h => h) hP hD hS hA (fun _ => rfl) (by decide) (by decide) (by decide) (Nat.le_of_ble_eq_true rfl) (Nat.le_of_ble_eq_true rfl) dX6_init_29 (fun q3 H hP hD hS => ?_)
  refine W.widen (k := 4) (n := 49) (Nat.le_of_ble_eq_true rfl) (Nat.le_of_ble_eq_true rfl) ?_
  have hP : va_P D vwCl [(h0, .inr (6, [.ref q0, .ref q1, .ref q2, .null, .int 0, .int 0, .int 0, .int 0, .null, .null, .null, .int 0, .long 0])), (q0, .inl (cI, 4, .inl (fun _ => 0))), (q1, .inl (cI, 8, .inl (fun _ => 0))), (q2, .inl (cZ, 2, .inl (fun _ => 0))), (q3, .inl (cI, 35, .inl (fun _ => 0)))] H := hP
  have hD : va_D A [(h0, .inr (6, [.ref q0, .ref q1, .ref q2, .null, .int 0, .int 0, .int 0, .int 0, .null, .null, .null, .int 0, .long 0])), (q0, .inl (cI, 4, .inl (fun _ => 0))), (q1, .inl (cI, 8, .inl (fun _ => 0))), (q2, .inl (cZ, 2, .inl (fun _ => 0))), (q3, .inl (cI, 35, .inl (fun _ => 0)))] := hD
  refine va_putF (D := D) (ci := 6) (v := .ref q3) (ty := .array .int) (C := RX6) (T := TX6) (N := 13) hx hb hts wF tyX6 tyX6_ok nmX6 hown hK hP hD hS 0 rfl rfl 3 (by decide) (hts (.fieldLink RX6 20 "OddNetsModel" "pad" "[I") (by decide +kernel)) (fun _ h9 => h9) rfl hin rfl (by decide +kernel) rfl rfl (Nat.le_of_ble_eq_true rfl) dX6_init_31 (fun H locs hP hD hS => ?_)
  have hP : va_P D vwCl [(h0, .inr (6, [.ref q0, .ref q1, .ref q2, .ref q3, .int 0, .int 0, .int 0, .int 0, .null, .null, .null, .int 0, .long 0])), (q0, .inl (cI, 4, .inl (fun _ => 0))), (q1, .inl (cI, 8, .inl (fun _ => 0))), (q2, .inl (cZ, 2, .inl (fun _ => 0))), (q3, .inl (cI, 35, .inl (fun _ => 0)))] H := hP
  have hD : va_D A [(h0, .inr (6, [.ref q0, .ref q1, .ref q2, .ref q3, .int 0, .int 0, .int 0, .int 0, .null, .null, .null, .int 0, .long 0])), (q0, .inl (cI, 4, .inl (fun _ => 0))), (q1, .inl (cI, 8, .inl (fun _ => 0))), (q2, .inl (cZ, 2, .inl (fun _ => 0))), (q3, .inl (cI, 35, .inl (fun _ => 0)))] := hD
  refine lv_aload_n hx hb dX6_init_34 rfl (lv_at hl 0 rfl) ?_
  refine lv_bipush (v := 7) hx hb dX6_init_35 (by decide) ?_
  refine on_newa (atype := .int) (ty := .int) (cT := cI) (t0 := 0) (N' := 7) (a0 := (7, .inl (fun _ => 0))) hx hb (hts (.arrayClass .int) (by decide +kernel)) rfl hK rfl (fun _ h => h) hP hD hS hA (fun _ => rfl) (by decide) (by decide) (by decide) (Nat.le_of_ble_eq_true rfl) (Nat.le_of_ble_eq_true rfl) dX6_init_37 (fun q8 H hP hD hS => ?_)
  refine W.widen (k := 5) (n := 56) (Nat.le_of_ble_eq_true rfl) (Nat.le_of_ble_eq_true rfl) ?_
  have hP : va_P D vwCl [(h0, .inr (6, [.ref q0, .ref q1, .ref q2, .ref q3, .int 0, .int 0, .int 0, .int 0, .null, .null, .null, .int 0, .long 0])), (q0, .inl (cI, 4, .inl (fun _ => 0))), (q1, .inl (cI, 8, .inl (fun _ => 0))), (q2, .inl (cZ, 2, .inl (fun _ => 0))), (q3, .inl (cI, 35, .inl (fun _ => 0))), (q8, .inl (cI, 7, .inl (fun _ => 0)))] H := hP
  have hD : va_D A [(h0, .inr (6, [.ref q0, .ref q1, .ref q2, .ref q3, .int 0, .int 0, .int 0, .int 0, .null, .null, .null, .int 0, .long 0])), (q0, .inl (cI, 4, .inl (fun _ => 0))), (q1, .inl (cI, 8, .inl (fun _ => 0))), (q2, .inl (cZ, 2, .inl (fun _ => 0))), (q3, .inl (cI, 35, .inl (fun _ => 0))), (q8, .inl (cI, 7, .inl (fun _ => 0)))] := hD
  refine va_putF (D := D) (ci := 6) (v := .ref q8) (ty := .array .int) (C := RX6) (T := TX6) (N := 13) hx hb hts wF tyX6 tyX6_ok nmX6 hown hK hP hD hS 0 rfl rfl 8 (by decide) (hts (.fieldLink RX6 23 "OddNetsModel" "row" "[I") (by decide +kernel)) (fun _ h9 => h9) rfl hin rfl (by decide +kernel) rfl rfl (Nat.le_of_ble_eq_true rfl) dX6_init_39 (fun H locs hP hD hS => ?_)
  have hP : va_P D vwCl [(h0, .inr (6, [.ref q0, .ref q1, .ref q2, .ref q3, .int 0, .int 0, .int 0, .int 0, .ref q8, .null, .null, .int 0, .long 0])), (q0, .inl (cI, 4, .inl (fun _ => 0))), (q1, .inl (cI, 8, .inl (fun _ => 0))), (q2, .inl (cZ, 2, .inl (fun _ => 0))), (q3, .inl (cI, 35, .inl (fun _ => 0))), (q8, .inl (cI, 7, .inl (fun _ => 0)))] H := hP
  have hD : va_D A [(h0, .inr (6, [.ref q0, .ref q1, .ref q2, .ref q3, .int 0, .int 0, .int 0, .int 0, .ref q8, .null, .null, .int 0, .long 0])), (q0, .inl (cI, 4, .inl (fun _ => 0))), (q1, .inl (cI, 8, .inl (fun _ => 0))), (q2, .inl (cZ, 2, .inl (fun _ => 0))), (q3, .inl (cI, 35, .inl (fun _ => 0))), (q8, .inl (cI, 7, .inl (fun _ => 0)))] := hD
  refine lv_aload_n hx hb dX6_init_42 rfl (lv_at hl 0 rfl) ?_
  refine lv_bipush (v := 7) hx hb dX6_init_43 (by decide) ?_
  refine on_newa (atype := .boolean) (ty := .boolean) (cT := cZ) (t0 := 2) (N' := 7) (a0 := (7, .inl (fun _ => 0))) hx hb (hts (.arrayClass .boolean) (by decide +kernel)) rfl hK rfl (fun _ h => h) hP hD hS hA (fun _ => rfl) (by decide) (by decide) (by decide) (Nat.le_of_ble_eq_true rfl) (Nat.le_of_ble_eq_true rfl) dX6_init_45 (fun q9 H hP hD hS => ?_)
  refine W.widen (k := 6) (n := 63) (Nat.le_of_ble_eq_true rfl) (Nat.le_of_ble_eq_true rfl) ?_
  have hP : va_P D vwCl [(h0, .inr (6, [.ref q0, .ref q1, .ref q2, .ref q3, .int 0, .int 0, .int 0, .int 0, .ref q8, .null, .null, .int 0, .long 0])), (q0, .inl (cI, 4, .inl (fun _ => 0))), (q1, .inl (cI, 8, .inl (fun _ => 0))), (q2, .inl (cZ, 2, .inl (fun _ => 0))), (q3, .inl (cI, 35, .inl (fun _ => 0))), (q8, .inl (cI, 7, .inl (fun _ => 0))), (q9, .inl (cZ, 7, .inl (fun _ => 0)))] H := hP
  have hD : va_D A [(h0, .inr (6, [.ref q0, .ref q1, .ref q2, .ref q3, .int 0, .int 0, .int 0, .int 0, .ref q8, .null, .null, .int 0, .long 0])), (q0, .inl (cI, 4, .inl (fun _ => 0))), (q1, .inl (cI, 8, .inl (fun _ => 0))), (q2, .inl (cZ, 2, .inl (fun _ => 0))), (q3, .inl (cI, 35, .inl (fun _ => 0))), (q8, .inl (cI, 7, .inl (fun _ => 0))), (q9, .inl (cZ, 7, .inl (fun _ => 0)))] := hD
  refine va_putF (D := D) (ci := 6) (v := .ref q9) (ty := .array .boolean) (C := RX6) (T := TX6) (N := 13) hx hb hts wF tyX6 tyX6_ok nmX6 hown hK hP hD hS 0 rfl rfl 9 (by decide) (hts (.fieldLink RX6 26 "OddNetsModel" "isUsed" "[Z") (by decide +kernel)) (fun _ h9 => h9) rfl hin rfl (by decide +kernel) rfl rfl (Nat.le_of_ble_eq_true rfl) dX6_init_47 (fun H locs hP hD hS => ?_)
  have hP : va_P D vwCl [(h0, .inr (6, [.ref q0, .ref q1, .ref q2, .ref q3, .int 0, .int 0, .int 0, .int 0, .ref q8, .ref q9, .null, .int 0, .long 0])), (q0, .inl (cI, 4, .inl (fun _ => 0))), (q1, .inl (cI, 8, .inl (fun _ => 0))), (q2, .inl (cZ, 2, .inl (fun _ => 0))), (q3, .inl (cI, 35, .inl (fun _ => 0))), (q8, .inl (cI, 7, .inl (fun _ => 0))), (q9, .inl (cZ, 7, .inl (fun _ => 0)))] H := hP
  have hD : va_D A [(h0, .inr (6, [.ref q0, .ref q1, .ref q2, .ref q3, .int 0, .int 0, .int 0, .int 0, .ref q8, .ref q9, .null, .int 0, .long 0])), (q0, .inl (cI, 4, .inl (fun _ => 0))), (q1, .inl (cI, 8, .inl (fun _ => 0))), (q2, .inl (cZ, 2, .inl (fun _ => 0))), (q3, .inl (cI, 35, .inl (fun _ => 0))), (q8, .inl (cI, 7, .inl (fun _ => 0))), (q9, .inl (cZ, 7, .inl (fun _ => 0)))] := hD
  refine lv_aload_n hx hb dX6_init_50 rfl (lv_at hl 0 rfl) ?_
  refine lv_bipush (v := 49) hx hb dX6_init_51 (by decide) ?_
  refine on_newa (atype := .long) (ty := .long) (cT := cJ) (t0 := 1) (N' := 49) (a0 := (49, .inr (.inl (fun _ => 0)))) hx hb (hts (.arrayClass .long) (by decide +kernel)) rfl hK rfl (fun _ h => h) hP hD hS hA (fun _ => rfl) (by decide) (by decide) (by decide) (Nat.le_of_ble_eq_true rfl) (Nat.le_of_ble_eq_true rfl) dX6_init_53 (fun q10 H hP hD hS => ?_)
  refine W.widen (k := 7) (n := 112) (Nat.le_of_ble_eq_true rfl) (Nat.le_of_ble_eq_true rfl) ?_
  have hP : va_P D vwCl [(h0, .inr (6, [.ref q0, .ref q1, .ref q2, .ref q3, .int 0, .int 0, .int 0, .int 0, .ref q8, .ref q9, .null, .int 0, .long 0])), (q0, .inl (cI, 4, .inl (fun _ => 0))), (q1, .inl (cI, 8, .inl (fun _ => 0))), (q2, .inl (cZ, 2, .inl (fun _ => 0))), (q3, .inl (cI, 35, .inl (fun _ => 0))), (q8, .inl (cI, 7, .inl (fun _ => 0))), (q9, .inl (cZ, 7, .inl (fun _ => 0))), (q10, .inl (cJ, 49, .inr (.inl (fun _ => 0))))] H := hP
  have hD : va_D A [(h0, .inr (6, [.ref q0, .ref q1, .ref q2, .ref q3, .int 0, .int 0, .int 0, .int 0, .ref q8, .ref q9, .null, .int 0, .long 0])), (q0, .inl (cI, 4, .inl (fun _ => 0))), (q1, .inl (cI, 8, .inl (fun _ => 0))), (q2, .inl (cZ, 2, .inl (fun _ => 0))), (q3, .inl (cI, 35, .inl (fun _ => 0))), (q8, .inl (cI, 7, .inl (fun _ => 0))), (q9, .inl (cZ, 7, .inl (fun _ => 0))), (q10, .inl (cJ, 49, .inr (.inl (fun _ => 0))))] := hD
  refine va_putF (D := D) (ci := 6) (v := .ref q10) (ty := .array .long) (C := RX6) (T := TX6) (N := 13) hx hb hts wF tyX6 tyX6_ok nmX6 hown hK hP hD hS 0 rfl rfl 10 (by decide) (hts (.fieldLink RX6 29 "OddNetsModel" "table" "[J") (by decide +kernel)) (fun _ h9 => h9) rfl hin rfl (by decide +kernel) rfl rfl (Nat.le_of_ble_eq_true rfl) dX6_init_55 (fun H locs hP hD hS => ?_)
  have hP : va_P D vwCl [(h0, .inr (6, [.ref q0, .ref q1, .ref q2, .ref q3, .int 0, .int 0, .int 0, .int 0, .ref q8, .ref q9, .ref q10, .int 0, .long 0])), (q0, .inl (cI, 4, .inl (fun _ => 0))), (q1, .inl (cI, 8, .inl (fun _ => 0))), (q2, .inl (cZ, 2, .inl (fun _ => 0))), (q3, .inl (cI, 35, .inl (fun _ => 0))), (q8, .inl (cI, 7, .inl (fun _ => 0))), (q9, .inl (cZ, 7, .inl (fun _ => 0))), (q10, .inl (cJ, 49, .inr (.inl (fun _ => 0))))] H := hP
  have hD : va_D A [(h0, .inr (6, [.ref q0, .ref q1, .ref q2, .ref q3, .int 0, .int 0, .int 0, .int 0, .ref q8, .ref q9, .ref q10, .int 0, .long 0])), (q0, .inl (cI, 4, .inl (fun _ => 0))), (q1, .inl (cI, 8, .inl (fun _ => 0))), (q2, .inl (cZ, 2, .inl (fun _ => 0))), (q3, .inl (cI, 35, .inl (fun _ => 0))), (q8, .inl (cI, 7, .inl (fun _ => 0))), (q9, .inl (cZ, 7, .inl (fun _ => 0))), (q10, .inl (cJ, 49, .inr (.inl (fun _ => 0))))] := hD
  refine lv_aload_n hx hb dX6_init_58 rfl (lv_at hl 0 rfl) ?_
  refine va_get (D := D) (ci := 6) (v := .ref q0) (C := RX6) (T := TX6) (N := 13) hx hb hts wF hown hK hP 0 rfl rfl 0 (by decide) (hts (.fieldLink RX6 7 "OddNetsModel" "state" "[I") (by decide +kernel)) (fun _ h9 => h9) rfl dX6_init_59 ?_
  refine lv_iconst (v := 0) hx hb dX6_init_62 (by decide) ?_
  refine lv_iconst (v := 5) hx hb dX6_init_63 (by decide) ?_
  refine va_iast hx hb hK hP hD hS 1 0 rfl rfl (on_ixE (i := 0) (n := 4) rfl) dX6_init_64 (fun H locs hP hD hS => ?_)
  have hP : va_P D vwCl [(h0, .inr (6, [.ref q0, .ref q1, .ref q2, .ref q3, .int 0, .int 0, .int 0, .int 0, .ref q8, .ref q9, .ref q10, .int 0, .long 0])), (q0, .inl (cI, 4, .inl (upd (fun _ => 0) 0 5))), (q1, .inl (cI, 8, .inl (fun _ => 0))), (q2, .inl (cZ, 2, .inl (fun _ => 0))), (q3, .inl (cI, 35, .inl (fun _ => 0))), (q8, .inl (cI, 7, .inl (fun _ => 0))), (q9, .inl (cZ, 7, .inl (fun _ => 0))), (q10, .inl (cJ, 49, .inr (.inl (fun _ => 0))))] H := hP
  have hD : va_D A [(h0, .inr (6, [.ref q0, .ref q1, .ref q2, .ref q3, .int 0, .int 0, .int 0, .int 0, .ref q8, .ref q9, .ref q10, .int 0, .long 0])), (q0, .inl (cI, 4, .inl (upd (fun _ => 0) 0 5))), (q1, .inl (cI, 8, .inl (fun _ => 0))), (q2, .inl (cZ, 2, .inl (fun _ => 0))), (q3, .inl (cI, 35, .inl (fun _ => 0))), (q8, .inl (cI, 7, .inl (fun _ => 0))), (q9, .inl (cZ, 7, .inl (fun _ => 0))), (q10, .inl (cJ, 49, .inr (.inl (fun _ => 0))))] := hD
  rw [← hQ]
  exact on_retI hx hb hr hlk ⟨q0, q1, q2, q3, q8, q9, q10, rfl⟩ hP hD hS dX6_init_65
