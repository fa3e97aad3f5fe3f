theorem pr_all3 : (List.range (pm_f 3)).map (pr 3) = pm_L 3 := by decide +kernel
theorem pr_all4 : (List.range (pm_f 4)).map (pr 4) = pm_L 4 := by decide +kernel
theorem pr_all5 : (List.range (pm_f 5)).map (pr 5) = pm_L 5 := by decide +kernel
theorem pr_all6 : (List.range (pm_f 6)).map (pr 6) = pm_L 6 := by decide +kernel
theorem pr_b0 : (List.range' 0 720).map (pr 7) = (pm_all 6 ((List.range 7).erase 0)).map (fun l => 0 :: l) := by decide +kernel
theorem pr_b1 : (List.range' 720 720).map (pr 7) = (pm_all 6 ((List.range 7).erase 1)).map (fun l => 1 :: l) := by decide +kernel
theorem pr_b2 : (List.range' 1440 720).map (pr 7) = (pm_all 6 ((List.range 7).erase 2)).map (fun l => 2 :: l) := by decide +kernel
theorem pr_b3 : (List.range' 2160 720).map (pr 7) = (pm_all 6 ((List.range 7).erase 3)).map (fun l => 3 :: l) := by decide +kernel
theorem pr_b4 : (List.range' 2880 720).map (pr 7) = (pm_all 6 ((List.range 7).erase 4)).map (fun l => 4 :: l) := by decide +kernel
theorem pr_b5 : (List.range' 3600 720).map (pr 7) = (pm_all 6 ((List.range 7).erase 5)).map (fun l => 5 :: l) := by decide +kernel
theorem pr_b6 : (List.range' 4320 720).map (pr 7) = (pm_all 6 ((List.range 7).erase 6)).map (fun l => 6 :: l) := by decide +kernel
theorem pr_all7 : (List.range (pm_f 7)).map (pr 7) = pm_L 7 := by
  have e : List.range (pm_f 7) = List.range' 0 720 ++ (List.range' 720 720 ++ (List.range' 1440 720 ++ (List.range' 2160 720 ++ (List.range' 2880 720 ++ (List.range' 3600 720 ++ List.range' 4320 720))))) := by
    have a1 : List.range' 3600 720 ++ List.range' 4320 720 = List.range' 3600 1440 := List.range'_append_1 (s := 3600) (m := 720) (n := 720)
    have a2 : List.range' 2880 720 ++ List.range' 3600 1440 = List.range' 2880 2160 := List.range'_append_1 (s := 2880) (m := 720) (n := 1440)
    have a3 : List.range' 2160 720 ++ List.range' 2880 2160 = List.range' 2160 2880 := List.range'_append_1 (s := 2160) (m := 720) (n := 2160)
    have a4 : List.range' 1440 720 ++ List.range' 2160 2880 = List.range' 1440 3600 := List.range'_append_1 (s := 1440) (m := 720) (n := 2880)
    have a5 : List.range' 720 720 ++ List.range' 1440 3600 = List.range' 720 4320 := List.range'_append_1 (s := 720) (m := 720) (n := 3600)
    have a6 : List.range' 0 720 ++ List.range' 720 4320 = List.range' 0 5040 := List.range'_append_1 (s := 0) (m := 720) (n := 4320)
    rw [a1, a2, a3, a4, a5, a6, show pm_f 7 = 5040 from rfl, List.range_eq_range']
  rw [e, List.map_append, List.map_append, List.map_append, List.map_append, List.map_append, List.map_append, pr_b0, pr_b1, pr_b2, pr_b3, pr_b4, pr_b5, pr_b6]
  show _ = [0, 1, 2, 3, 4, 5, 6].flatMap (fun x => (pm_all 6 ((List.range 7).erase x)).map (fun l => x :: l))
  simp only [List.flatMap_cons, List.flatMap_nil, List.append_nil]
theorem pr_all {n : Nat} (hn : n < 8) (hn3 : 3 ≤ n) : (List.range (pm_f n)).map (pr n) = pm_L n := by
  match n, hn, hn3 with
  | 3, _, _ => exact pr_all3
  | 4, _, _ => exact pr_all4
  | 5, _, _ => exact pr_all5
  | 6, _, _ => exact pr_all6
  | 7, _, _ => exact pr_all7
theorem pr_P {n r : Nat} (hn : n < 8) (hn3 : 3 ≤ n) (hr : r < pm_f n) : pm_P n (pr n r) := by
  apply pm_L_mem.mp
  rw [← pr_all hn hn3]
  exact List.mem_map.mpr ⟨r, List.mem_range.mpr hr, rfl⟩
theorem pr_ex {n : Nat} {l : List Nat} (hn : n < 8) (hn3 : 3 ≤ n) (h : pm_P n l) : ∃ r, r < pm_f n ∧ pr n r = l := by
  have h1 := pm_L_mem.mpr h
  rw [← pr_all hn hn3] at h1
  obtain ⟨r, hr, e⟩ := List.mem_map.mp h1
  exact ⟨r, List.mem_range.mp hr, e⟩
theorem pr_n {n : Nat} (hn : n < 8) (hn3 : 3 ≤ n) (P : List Nat → Bool) : fb_ct (fun r => P (pr n r)) (pm_f n) = pm_n n P := by
  unfold pm_n
  rw [pm_ct, ← pr_all hn hn3, List.filter_map, List.length_map]
  rfl
