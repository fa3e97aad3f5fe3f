/-! ===== what the tables say at the law's entry ===== -/
theorem on_nest_ix : [27, 29, 44, 58, 59, 60, 62, 63, 89, 22, 39, 53, 71, 81, 105, 159, 164, 168, 175, 176, 184, 207, 226, 234, 238, 242, 254, 266, 278, 282, 290, 291, 292, 297, 305, 306, 307, 315, 330, 335, 360, 370, 371, 376, 380, 381, 400, 408, 412, 421, 432, 436, 437, 453, 461, 470].map (fun i => tables_1[i]?) = on_nest.map some := by decide +kernel
theorem on_nest_in {w : Cond} (h : w ∈ on_nest) : w ∈ tables_1 := by
  have h1 : some w ∈ on_nest.map some := List.mem_map.mpr ⟨w, h, rfl⟩
  rw [← on_nest_ix] at h1
  obtain ⟨i, _, hi⟩ := List.mem_map.mp h1
  exact List.mem_of_getElem? hi
theorem lw_in {w : Cond} (h : w ∈ tables_1) : w ∈ lw_tbl := List.mem_append_right _ h
theorem lw_N {s : State} {bb : Nat} (hts : ∀ w ∈ lw_tbl, w.before #[Value.ref bb] s = true) : on_N s := fun w hw => va_Nw.of (on_isN_tab (List.all_eq_true.mp on_nest_is w hw)) (hts w (lw_in (on_nest_in hw)))
theorem lw_O {s : State} {bb : Nat} (hts : ∀ w ∈ lw_tbl, w.before #[Value.ref bb] s = true) : on_AO s := ⟨va_AO.of (hts (.arrayOver (.object "OddNets$Shelf")) (lw_in (List.mem_of_getElem? (i := 36) (by decide +kernel)))), va_AOA.of (hts (.arrayOver (.array .long)) (lw_in (List.mem_of_getElem? (i := 86) (by decide +kernel))))⟩
theorem lw_arr {s : State} {bb : Nat} {ty : FieldType} (h : (Cond.arrayClass ty).before #[Value.ref bb] s = true) : ∃ c, ArrOfT s c ty ∧ s.vm.findClass ("[" ++ ty.toString) = some c := by
  obtain ⟨c, k, comp, h1, h2, h3⟩ := Cond.arrayClass_spec h
  exact ⟨c, fun n z => ⟨fun q hq => (by cases hq), k, h2, comp, h3⟩, h1⟩
theorem lw_K {s : State} {bb : Nat} (hts : ∀ w ∈ lw_tbl, w.before #[Value.ref bb] s = true) : ∃ (D : va_G) (cI cJ cZ cS cA : ClassId), va_K D vwCl (on_T cI cJ cZ cS cA) s := by
  obtain ⟨c0, s0, k0⟩ := u_known (ws := lw_tbl) hts inX0 (hts (.instantiable RX0 2) (lw_in (List.mem_of_getElem? (i := 52) (by decide +kernel))))
  obtain ⟨c1, s1, k1⟩ := u_known (ws := lw_tbl) hts inX1 (hts (.instantiable RX1 2) (lw_in (List.mem_of_getElem? (i := 38) (by decide +kernel))))
  obtain ⟨c2, s2, k2⟩ := u_known (ws := lw_tbl) hts inX2 (hts (.instantiable RX2 1) (lw_in (List.mem_of_getElem? (i := 70) (by decide +kernel))))
  obtain ⟨c3, s3, k3⟩ := u_known (ws := lw_tbl) hts inX3 (hts (.instantiable RX3 2) (lw_in (List.mem_of_getElem? (i := 21) (by decide +kernel))))
  obtain ⟨c4, s4, k4⟩ := u_known (ws := lw_tbl) hts inX4 (hts (.instantiable RX4 5) (lw_in (List.mem_of_getElem? (i := 80) (by decide +kernel))))
  obtain ⟨c5, s5, k5⟩ := u_known (ws := lw_tbl) hts inX5 (hts (.instantiable RX5 8) (lw_in (List.mem_of_getElem? (i := 13) (by decide +kernel))))
  obtain ⟨c6, s6, k6⟩ := u_known (ws := lw_tbl) hts inX6 (hts (.instantiable RX6 13) (lw_in (List.mem_of_getElem? (i := 499) (by decide +kernel))))
  obtain ⟨cI, aI, fI⟩ := lw_arr (hts (.arrayClass .int) (lw_in (List.mem_of_getElem? (i := 35) (by decide +kernel))))
  obtain ⟨cJ, aJ, fJ⟩ := lw_arr (hts (.arrayClass .long) (lw_in (List.mem_of_getElem? (i := 104) (by decide +kernel))))
  obtain ⟨cZ, aZ, fZ⟩ := lw_arr (hts (.arrayClass .boolean) (lw_in (List.mem_of_getElem? (i := 544) (by decide +kernel))))
  have hO := lw_O hts
  obtain ⟨compS, cS, kS, g1, g2, g3, g4, g5⟩ := Cond.arrayOver_spec hO.1
  obtain ⟨compA, cA, kA, j1, j2, j3, j4, j5⟩ := Jvm.Stand.arrayOver_specB hO.2
  refine ⟨(fun k => [c0, c1, c2, c3, c4, c5, c6].getD k c0, fun k => [s0, s1, s2, s3, s4, s5, s6].getD k s0), cI, cJ, cZ, cS, cA, fun c q hq => ?_, fun k q hq => ?_⟩
  · have hlt : c < 7 := (List.getElem?_eq_some_iff.mp hq).1
    rcases (show c = 0 ∨ c = 1 ∨ c = 2 ∨ c = 3 ∨ c = 4 ∨ c = 5 ∨ c = 6 by omega) with rfl | rfl | rfl | rfl | rfl | rfl | rfl
    · cases hq; exact k0
    · cases hq; exact k1
    · cases hq; exact k2
    · cases hq; exact k3
    · cases hq; exact k4
    · cases hq; exact k5
    · cases hq; exact k6
  · have hlt : k < 5 := (List.getElem?_eq_some_iff.mp hq).1
    rcases (show k = 0 ∨ k = 1 ∨ k = 2 ∨ k = 3 ∨ k = 4 by omega) with rfl | rfl | rfl | rfl | rfl
    · cases hq; exact ⟨aI, fI⟩
    · cases hq; exact ⟨aJ, fJ⟩
    · cases hq; exact ⟨aZ, fZ⟩
    · cases hq; exact ⟨fun n z => ⟨fun q hq => (by cases hq), kS, g3, compS, g4⟩, kS, compS, g3, g4, g1, g5⟩
    · cases hq; exact ⟨fun n z => ⟨fun q hq => (by cases hq), kA, j3, compA, j4⟩, j5⟩
