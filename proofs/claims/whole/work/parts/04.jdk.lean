theorem hdX5_nodes : yX5_nodes.cls ≠ "java/lang/invoke/MethodHandle" ∧ yX5_nodes.cls ≠ "java/lang/invoke/VarHandle" ∧ (parseMethodDescriptor yX5_nodes.desc).map (fun d => d.parameters.length) = some 1 := by decide +kernel
theorem hdX5_join : yX5_join.cls ≠ "java/lang/invoke/MethodHandle" ∧ yX5_join.cls ≠ "java/lang/invoke/VarHandle" ∧ (parseMethodDescriptor yX5_join.desc).map (fun d => d.parameters.length) = some 4 := by decide +kernel
theorem hdX5_set : yX5_set.cls ≠ "java/lang/invoke/MethodHandle" ∧ yX5_set.cls ≠ "java/lang/invoke/VarHandle" ∧ (parseMethodDescriptor yX5_set.desc).map (fun d => d.parameters.length) = some 2 := by decide +kernel
theorem hdX5_say : yX5_say.cls ≠ "java/lang/invoke/MethodHandle" ∧ yX5_say.cls ≠ "java/lang/invoke/VarHandle" ∧ (parseMethodDescriptor yX5_say.desc).map (fun d => d.parameters.length) = some 1 := by decide +kernel
theorem hdX5_wipe : yX5_wipe.cls ≠ "java/lang/invoke/MethodHandle" ∧ yX5_wipe.cls ≠ "java/lang/invoke/VarHandle" ∧ (parseMethodDescriptor yX5_wipe.desc).map (fun d => d.parameters.length) = some 0 := by decide +kernel
theorem hdX5_fault : yX5_fault.cls ≠ "java/lang/invoke/MethodHandle" ∧ yX5_fault.cls ≠ "java/lang/invoke/VarHandle" ∧ (parseMethodDescriptor yX5_fault.desc).map (fun d => d.parameters.length) = some 1 := by decide +kernel
theorem hdX5_read : yX5_read.cls ≠ "java/lang/invoke/MethodHandle" ∧ yX5_read.cls ≠ "java/lang/invoke/VarHandle" ∧ (parseMethodDescriptor yX5_read.desc).map (fun d => d.parameters.length) = some 2 := by decide +kernel
theorem hdX5_turn : yX5_turn.cls ≠ "java/lang/invoke/MethodHandle" ∧ yX5_turn.cls ≠ "java/lang/invoke/VarHandle" ∧ (parseMethodDescriptor yX5_turn.desc).map (fun d => d.parameters.length) = some 3 := by decide +kernel
theorem hdX5_of : yX5_of.cls ≠ "java/lang/invoke/MethodHandle" ∧ yX5_of.cls ≠ "java/lang/invoke/VarHandle" ∧ (parseMethodDescriptor yX5_of.desc).map (fun d => d.parameters.length) = some 2 := by decide +kernel
theorem hdX5_node : yX5_node.cls ≠ "java/lang/invoke/MethodHandle" ∧ yX5_node.cls ≠ "java/lang/invoke/VarHandle" ∧ (parseMethodDescriptor yX5_node.desc).map (fun d => d.parameters.length) = some 3 := by decide +kernel
theorem hdX5_pair : yX5_pair.cls ≠ "java/lang/invoke/MethodHandle" ∧ yX5_pair.cls ≠ "java/lang/invoke/VarHandle" ∧ (parseMethodDescriptor yX5_pair.desc).map (fun d => d.parameters.length) = some 4 := by decide +kernel
theorem hdX5_fewest : yX5_fewest.cls ≠ "java/lang/invoke/MethodHandle" ∧ yX5_fewest.cls ≠ "java/lang/invoke/VarHandle" ∧ (parseMethodDescriptor yX5_fewest.desc).map (fun d => d.parameters.length) = some 2 := by decide +kernel
theorem hdX5_even : yX5_even.cls ≠ "java/lang/invoke/MethodHandle" ∧ yX5_even.cls ≠ "java/lang/invoke/VarHandle" ∧ (parseMethodDescriptor yX5_even.desc).map (fun d => d.parameters.length) = some 2 := by decide +kernel
theorem hdX5_by : yX5_by.cls ≠ "java/lang/invoke/MethodHandle" ∧ yX5_by.cls ≠ "java/lang/invoke/VarHandle" ∧ (parseMethodDescriptor yX5_by.desc).map (fun d => d.parameters.length) = some 3 := by decide +kernel
theorem hdX5_compare : yX5_compare.cls ≠ "java/lang/invoke/MethodHandle" ∧ yX5_compare.cls ≠ "java/lang/invoke/VarHandle" ∧ (parseMethodDescriptor yX5_compare.desc).map (fun d => d.parameters.length) = some 3 := by decide +kernel
theorem hdX5_kind : yX5_kind.cls ≠ "java/lang/invoke/MethodHandle" ∧ yX5_kind.cls ≠ "java/lang/invoke/VarHandle" ∧ (parseMethodDescriptor yX5_kind.desc).map (fun d => d.parameters.length) = some 2 := by decide +kernel
theorem hdX5_card : yX5_card.cls ≠ "java/lang/invoke/MethodHandle" ∧ yX5_card.cls ≠ "java/lang/invoke/VarHandle" ∧ (parseMethodDescriptor yX5_card.desc).map (fun d => d.parameters.length) = some 2 := by decide +kernel
theorem hdX5_root : yX5_root.cls ≠ "java/lang/invoke/MethodHandle" ∧ yX5_root.cls ≠ "java/lang/invoke/VarHandle" ∧ (parseMethodDescriptor yX5_root.desc).map (fun d => d.parameters.length) = some 3 := by decide +kernel
theorem hdX5_image : yX5_image.cls ≠ "java/lang/invoke/MethodHandle" ∧ yX5_image.cls ≠ "java/lang/invoke/VarHandle" ∧ (parseMethodDescriptor yX5_image.desc).map (fun d => d.parameters.length) = some 1 := by decide +kernel
theorem hdX5_restore : yX5_restore.cls ≠ "java/lang/invoke/MethodHandle" ∧ yX5_restore.cls ≠ "java/lang/invoke/VarHandle" ∧ (parseMethodDescriptor yX5_restore.desc).map (fun d => d.parameters.length) = some 1 := by decide +kernel
theorem hdX5_count : yX5_count.cls ≠ "java/lang/invoke/MethodHandle" ∧ yX5_count.cls ≠ "java/lang/invoke/VarHandle" ∧ (parseMethodDescriptor yX5_count.desc).map (fun d => d.parameters.length) = some 1 := by decide +kernel
theorem hdX5_within : yX5_within.cls ≠ "java/lang/invoke/MethodHandle" ∧ yX5_within.cls ≠ "java/lang/invoke/VarHandle" ∧ (parseMethodDescriptor yX5_within.desc).map (fun d => d.parameters.length) = some 3 := by decide +kernel
theorem hdX5_pairsOf : yX5_pairsOf.cls ≠ "java/lang/invoke/MethodHandle" ∧ yX5_pairsOf.cls ≠ "java/lang/invoke/VarHandle" ∧ (parseMethodDescriptor yX5_pairsOf.desc).map (fun d => d.parameters.length) = some 1 := by decide +kernel
theorem hdX5_triplesOf : yX5_triplesOf.cls ≠ "java/lang/invoke/MethodHandle" ∧ yX5_triplesOf.cls ≠ "java/lang/invoke/VarHandle" ∧ (parseMethodDescriptor yX5_triplesOf.desc).map (fun d => d.parameters.length) = some 1 := by decide +kernel
theorem hdX5_isSlot : yX5_isSlot.cls ≠ "java/lang/invoke/MethodHandle" ∧ yX5_isSlot.cls ≠ "java/lang/invoke/VarHandle" ∧ (parseMethodDescriptor yX5_isSlot.desc).map (fun d => d.parameters.length) = some 1 := by decide +kernel
theorem hdX5_isNode : yX5_isNode.cls ≠ "java/lang/invoke/MethodHandle" ∧ yX5_isNode.cls ≠ "java/lang/invoke/VarHandle" ∧ (parseMethodDescriptor yX5_isNode.desc).map (fun d => d.parameters.length) = some 1 := by decide +kernel
theorem hdX5_signsFor : yX5_signsFor.cls ≠ "java/lang/invoke/MethodHandle" ∧ yX5_signsFor.cls ≠ "java/lang/invoke/VarHandle" ∧ (parseMethodDescriptor yX5_signsFor.desc).map (fun d => d.parameters.length) = some 1 := by decide +kernel
theorem hdX5_load : yX5_load.cls ≠ "java/lang/invoke/MethodHandle" ∧ yX5_load.cls ≠ "java/lang/invoke/VarHandle" ∧ (parseMethodDescriptor yX5_load.desc).map (fun d => d.parameters.length) = some 2 := by decide +kernel
theorem hdX5_howManyBy : yX5_howManyBy.cls ≠ "java/lang/invoke/MethodHandle" ∧ yX5_howManyBy.cls ≠ "java/lang/invoke/VarHandle" ∧ (parseMethodDescriptor yX5_howManyBy.desc).map (fun d => d.parameters.length) = some 2 := by decide +kernel
theorem hdX5_leastSetBy : yX5_leastSetBy.cls ≠ "java/lang/invoke/MethodHandle" ∧ yX5_leastSetBy.cls ≠ "java/lang/invoke/VarHandle" ∧ (parseMethodDescriptor yX5_leastSetBy.desc).map (fun d => d.parameters.length) = some 1 := by decide +kernel
theorem hdX5_bringingSet : yX5_bringingSet.cls ≠ "java/lang/invoke/MethodHandle" ∧ yX5_bringingSet.cls ≠ "java/lang/invoke/VarHandle" ∧ (parseMethodDescriptor yX5_bringingSet.desc).map (fun d => d.parameters.length) = some 2 := by decide +kernel
theorem hdX5_kindOfSlot : yX5_kindOfSlot.cls ≠ "java/lang/invoke/MethodHandle" ∧ yX5_kindOfSlot.cls ≠ "java/lang/invoke/VarHandle" ∧ (parseMethodDescriptor yX5_kindOfSlot.desc).map (fun d => d.parameters.length) = some 1 := by decide +kernel
theorem hdX5_differentClasses : yX5_differentClasses.cls ≠ "java/lang/invoke/MethodHandle" ∧ yX5_differentClasses.cls ≠ "java/lang/invoke/VarHandle" ∧ (parseMethodDescriptor yX5_differentClasses.desc).map (fun d => d.parameters.length) = some 0 := by decide +kernel
theorem hdX5_differentKinds : yX5_differentKinds.cls ≠ "java/lang/invoke/MethodHandle" ∧ yX5_differentKinds.cls ≠ "java/lang/invoke/VarHandle" ∧ (parseMethodDescriptor yX5_differentKinds.desc).map (fun d => d.parameters.length) = some 0 := by decide +kernel
theorem hdX5_differentMarks : yX5_differentMarks.cls ≠ "java/lang/invoke/MethodHandle" ∧ yX5_differentMarks.cls ≠ "java/lang/invoke/VarHandle" ∧ (parseMethodDescriptor yX5_differentMarks.desc).map (fun d => d.parameters.length) = some 0 := by decide +kernel
theorem hdX5_isMarkedBefore : yX5_isMarkedBefore.cls ≠ "java/lang/invoke/MethodHandle" ∧ yX5_isMarkedBefore.cls ≠ "java/lang/invoke/VarHandle" ∧ (parseMethodDescriptor yX5_isMarkedBefore.desc).map (fun d => d.parameters.length) = some 1 := by decide +kernel
theorem hdX5_keptImages : yX5_keptImages.cls ≠ "java/lang/invoke/MethodHandle" ∧ yX5_keptImages.cls ≠ "java/lang/invoke/VarHandle" ∧ (parseMethodDescriptor yX5_keptImages.desc).map (fun d => d.parameters.length) = some 0 := by decide +kernel
theorem hdX6_in : yX6_in.cls ≠ "java/lang/invoke/MethodHandle" ∧ yX6_in.cls ≠ "java/lang/invoke/VarHandle" ∧ (parseMethodDescriptor yX6_in.desc).map (fun d => d.parameters.length) = some 3 := by decide +kernel
theorem hdX6_isSlot : yX6_isSlot.cls ≠ "java/lang/invoke/MethodHandle" ∧ yX6_isSlot.cls ≠ "java/lang/invoke/VarHandle" ∧ (parseMethodDescriptor yX6_isSlot.desc).map (fun d => d.parameters.length) = some 1 := by decide +kernel
theorem hdX6_isNode : yX6_isNode.cls ≠ "java/lang/invoke/MethodHandle" ∧ yX6_isNode.cls ≠ "java/lang/invoke/VarHandle" ∧ (parseMethodDescriptor yX6_isNode.desc).map (fun d => d.parameters.length) = some 1 := by decide +kernel
theorem hdX6_pairs : yX6_pairs.cls ≠ "java/lang/invoke/MethodHandle" ∧ yX6_pairs.cls ≠ "java/lang/invoke/VarHandle" ∧ (parseMethodDescriptor yX6_pairs.desc).map (fun d => d.parameters.length) = some 1 := by decide +kernel
theorem hdX6_triples : yX6_triples.cls ≠ "java/lang/invoke/MethodHandle" ∧ yX6_triples.cls ≠ "java/lang/invoke/VarHandle" ∧ (parseMethodDescriptor yX6_triples.desc).map (fun d => d.parameters.length) = some 1 := by decide +kernel
theorem hdX6_valueOf : yX6_valueOf.cls ≠ "java/lang/invoke/MethodHandle" ∧ yX6_valueOf.cls ≠ "java/lang/invoke/VarHandle" ∧ (parseMethodDescriptor yX6_valueOf.desc).map (fun d => d.parameters.length) = some 3 := by decide +kernel
theorem hdX6_joined : yX6_joined.cls ≠ "java/lang/invoke/MethodHandle" ∧ yX6_joined.cls ≠ "java/lang/invoke/VarHandle" ∧ (parseMethodDescriptor yX6_joined.desc).map (fun d => d.parameters.length) = some 4 := by decide +kernel
theorem hdX6_size : yX6_size.cls ≠ "java/lang/invoke/MethodHandle" ∧ yX6_size.cls ≠ "java/lang/invoke/VarHandle" ∧ (parseMethodDescriptor yX6_size.desc).map (fun d => d.parameters.length) = some 1 := by decide +kernel
theorem hdX6_switched : yX6_switched.cls ≠ "java/lang/invoke/MethodHandle" ∧ yX6_switched.cls ≠ "java/lang/invoke/VarHandle" ∧ (parseMethodDescriptor yX6_switched.desc).map (fun d => d.parameters.length) = some 3 := by decide +kernel
theorem hdX6_neighbours : yX6_neighbours.cls ≠ "java/lang/invoke/MethodHandle" ∧ yX6_neighbours.cls ≠ "java/lang/invoke/VarHandle" ∧ (parseMethodDescriptor yX6_neighbours.desc).map (fun d => d.parameters.length) = some 3 := by decide +kernel
theorem hdX6_degree : yX6_degree.cls ≠ "java/lang/invoke/MethodHandle" ∧ yX6_degree.cls ≠ "java/lang/invoke/VarHandle" ∧ (parseMethodDescriptor yX6_degree.desc).map (fun d => d.parameters.length) = some 3 := by decide +kernel
theorem hdX6_alone : yX6_alone.cls ≠ "java/lang/invoke/MethodHandle" ∧ yX6_alone.cls ≠ "java/lang/invoke/VarHandle" ∧ (parseMethodDescriptor yX6_alone.desc).map (fun d => d.parameters.length) = some 3 := by decide +kernel
theorem hdX6_isOdd : yX6_isOdd.cls ≠ "java/lang/invoke/MethodHandle" ∧ yX6_isOdd.cls ≠ "java/lang/invoke/VarHandle" ∧ (parseMethodDescriptor yX6_isOdd.desc).map (fun d => d.parameters.length) = some 5 := by decide +kernel
theorem hdX6_oddOfPair : yX6_oddOfPair.cls ≠ "java/lang/invoke/MethodHandle" ∧ yX6_oddOfPair.cls ≠ "java/lang/invoke/VarHandle" ∧ (parseMethodDescriptor yX6_oddOfPair.desc).map (fun d => d.parameters.length) = some 4 := by decide +kernel
theorem hdX6_oddOfNode : yX6_oddOfNode.cls ≠ "java/lang/invoke/MethodHandle" ∧ yX6_oddOfNode.cls ≠ "java/lang/invoke/VarHandle" ∧ (parseMethodDescriptor yX6_oddOfNode.desc).map (fun d => d.parameters.length) = some 3 := by decide +kernel
theorem hdX6_oddOfNet : yX6_oddOfNet.cls ≠ "java/lang/invoke/MethodHandle" ∧ yX6_oddOfNet.cls ≠ "java/lang/invoke/VarHandle" ∧ (parseMethodDescriptor yX6_oddOfNet.desc).map (fun d => d.parameters.length) = some 2 := by decide +kernel
theorem hdX6_without : yX6_without.cls ≠ "java/lang/invoke/MethodHandle" ∧ yX6_without.cls ≠ "java/lang/invoke/VarHandle" ∧ (parseMethodDescriptor yX6_without.desc).map (fun d => d.parameters.length) = some 3 := by decide +kernel
theorem hdX6_netOf : yX6_netOf.cls ≠ "java/lang/invoke/MethodHandle" ∧ yX6_netOf.cls ≠ "java/lang/invoke/VarHandle" ∧ (parseMethodDescriptor yX6_netOf.desc).map (fun d => d.parameters.length) = some 1 := by decide +kernel
theorem hdX6_many : yX6_many.cls ≠ "java/lang/invoke/MethodHandle" ∧ yX6_many.cls ≠ "java/lang/invoke/VarHandle" ∧ (parseMethodDescriptor yX6_many.desc).map (fun d => d.parameters.length) = some 0 := by decide +kernel
theorem hdX6_nodes : yX6_nodes.cls ≠ "java/lang/invoke/MethodHandle" ∧ yX6_nodes.cls ≠ "java/lang/invoke/VarHandle" ∧ (parseMethodDescriptor yX6_nodes.desc).map (fun d => d.parameters.length) = some 1 := by decide +kernel
theorem hdX6_join : yX6_join.cls ≠ "java/lang/invoke/MethodHandle" ∧ yX6_join.cls ≠ "java/lang/invoke/VarHandle" ∧ (parseMethodDescriptor yX6_join.desc).map (fun d => d.parameters.length) = some 4 := by decide +kernel
theorem hdX6_hold : yX6_hold.cls ≠ "java/lang/invoke/MethodHandle" ∧ yX6_hold.cls ≠ "java/lang/invoke/VarHandle" ∧ (parseMethodDescriptor yX6_hold.desc).map (fun d => d.parameters.length) = some 2 := by decide +kernel
theorem hdX6_set : yX6_set.cls ≠ "java/lang/invoke/MethodHandle" ∧ yX6_set.cls ≠ "java/lang/invoke/VarHandle" ∧ (parseMethodDescriptor yX6_set.desc).map (fun d => d.parameters.length) = some 2 := by decide +kernel
theorem hdX6_say : yX6_say.cls ≠ "java/lang/invoke/MethodHandle" ∧ yX6_say.cls ≠ "java/lang/invoke/VarHandle" ∧ (parseMethodDescriptor yX6_say.desc).map (fun d => d.parameters.length) = some 1 := by decide +kernel
theorem hdX6_wipe : yX6_wipe.cls ≠ "java/lang/invoke/MethodHandle" ∧ yX6_wipe.cls ≠ "java/lang/invoke/VarHandle" ∧ (parseMethodDescriptor yX6_wipe.desc).map (fun d => d.parameters.length) = some 0 := by decide +kernel
theorem hdX6_faultAs : yX6_faultAs.cls ≠ "java/lang/invoke/MethodHandle" ∧ yX6_faultAs.cls ≠ "java/lang/invoke/VarHandle" ∧ (parseMethodDescriptor yX6_faultAs.desc).map (fun d => d.parameters.length) = some 1 := by decide +kernel
theorem hdX6_fault : yX6_fault.cls ≠ "java/lang/invoke/MethodHandle" ∧ yX6_fault.cls ≠ "java/lang/invoke/VarHandle" ∧ (parseMethodDescriptor yX6_fault.desc).map (fun d => d.parameters.length) = some 1 := by decide +kernel
theorem hdX6_placeOf : yX6_placeOf.cls ≠ "java/lang/invoke/MethodHandle" ∧ yX6_placeOf.cls ≠ "java/lang/invoke/VarHandle" ∧ (parseMethodDescriptor yX6_placeOf.desc).map (fun d => d.parameters.length) = some 3 := by decide +kernel
theorem hdX6_told : yX6_told.cls ≠ "java/lang/invoke/MethodHandle" ∧ yX6_told.cls ≠ "java/lang/invoke/VarHandle" ∧ (parseMethodDescriptor yX6_told.desc).map (fun d => d.parameters.length) = some 3 := by decide +kernel
theorem hdX6_fitFour : yX6_fitFour.cls ≠ "java/lang/invoke/MethodHandle" ∧ yX6_fitFour.cls ≠ "java/lang/invoke/VarHandle" ∧ (parseMethodDescriptor yX6_fitFour.desc).map (fun d => d.parameters.length) = some 4 := by decide +kernel
theorem hdX6_areFit : yX6_areFit.cls ≠ "java/lang/invoke/MethodHandle" ∧ yX6_areFit.cls ≠ "java/lang/invoke/VarHandle" ∧ (parseMethodDescriptor yX6_areFit.desc).map (fun d => d.parameters.length) = some 0 := by decide +kernel
theorem hdX6_netOfPad : yX6_netOfPad.cls ≠ "java/lang/invoke/MethodHandle" ∧ yX6_netOfPad.cls ≠ "java/lang/invoke/VarHandle" ∧ (parseMethodDescriptor yX6_netOfPad.desc).map (fun d => d.parameters.length) = some 0 := by decide +kernel
theorem hdX6_netOfTriples : yX6_netOfTriples.cls ≠ "java/lang/invoke/MethodHandle" ∧ yX6_netOfTriples.cls ≠ "java/lang/invoke/VarHandle" ∧ (parseMethodDescriptor yX6_netOfTriples.desc).map (fun d => d.parameters.length) = some 0 := by decide +kernel
theorem hdX6_read : yX6_read.cls ≠ "java/lang/invoke/MethodHandle" ∧ yX6_read.cls ≠ "java/lang/invoke/VarHandle" ∧ (parseMethodDescriptor yX6_read.desc).map (fun d => d.parameters.length) = some 2 := by decide +kernel
theorem hdX6_turn : yX6_turn.cls ≠ "java/lang/invoke/MethodHandle" ∧ yX6_turn.cls ≠ "java/lang/invoke/VarHandle" ∧ (parseMethodDescriptor yX6_turn.desc).map (fun d => d.parameters.length) = some 3 := by decide +kernel
theorem hdX6_regular : yX6_regular.cls ≠ "java/lang/invoke/MethodHandle" ∧ yX6_regular.cls ≠ "java/lang/invoke/VarHandle" ∧ (parseMethodDescriptor yX6_regular.desc).map (fun d => d.parameters.length) = some 1 := by decide +kernel
theorem hdX6_oddNodes : yX6_oddNodes.cls ≠ "java/lang/invoke/MethodHandle" ∧ yX6_oddNodes.cls ≠ "java/lang/invoke/VarHandle" ∧ (parseMethodDescriptor yX6_oddNodes.desc).map (fun d => d.parameters.length) = some 1 := by decide +kernel
theorem hdX6_of : yX6_of.cls ≠ "java/lang/invoke/MethodHandle" ∧ yX6_of.cls ≠ "java/lang/invoke/VarHandle" ∧ (parseMethodDescriptor yX6_of.desc).map (fun d => d.parameters.length) = some 2 := by decide +kernel
theorem hdX6_node : yX6_node.cls ≠ "java/lang/invoke/MethodHandle" ∧ yX6_node.cls ≠ "java/lang/invoke/VarHandle" ∧ (parseMethodDescriptor yX6_node.desc).map (fun d => d.parameters.length) = some 3 := by decide +kernel
theorem hdX6_common : yX6_common.cls ≠ "java/lang/invoke/MethodHandle" ∧ yX6_common.cls ≠ "java/lang/invoke/VarHandle" ∧ (parseMethodDescriptor yX6_common.desc).map (fun d => d.parameters.length) = some 4 := by decide +kernel
theorem hdX6_pair : yX6_pair.cls ≠ "java/lang/invoke/MethodHandle" ∧ yX6_pair.cls ≠ "java/lang/invoke/VarHandle" ∧ (parseMethodDescriptor yX6_pair.desc).map (fun d => d.parameters.length) = some 4 := by decide +kernel
theorem hdX6_fewest : yX6_fewest.cls ≠ "java/lang/invoke/MethodHandle" ∧ yX6_fewest.cls ≠ "java/lang/invoke/VarHandle" ∧ (parseMethodDescriptor yX6_fewest.desc).map (fun d => d.parameters.length) = some 2 := by decide +kernel
theorem hdX6_beginFound : yX6_beginFound.cls ≠ "java/lang/invoke/MethodHandle" ∧ yX6_beginFound.cls ≠ "java/lang/invoke/VarHandle" ∧ (parseMethodDescriptor yX6_beginFound.desc).map (fun d => d.parameters.length) = some 0 := by decide +kernel
theorem hdX6_find : yX6_find.cls ≠ "java/lang/invoke/MethodHandle" ∧ yX6_find.cls ≠ "java/lang/invoke/VarHandle" ∧ (parseMethodDescriptor yX6_find.desc).map (fun d => d.parameters.length) = some 1 := by decide +kernel
theorem hdX6_even : yX6_even.cls ≠ "java/lang/invoke/MethodHandle" ∧ yX6_even.cls ≠ "java/lang/invoke/VarHandle" ∧ (parseMethodDescriptor yX6_even.desc).map (fun d => d.parameters.length) = some 2 := by decide +kernel
theorem hdX6_isBy : yX6_isBy.cls ≠ "java/lang/invoke/MethodHandle" ∧ yX6_isBy.cls ≠ "java/lang/invoke/VarHandle" ∧ (parseMethodDescriptor yX6_isBy.desc).map (fun d => d.parameters.length) = some 2 := by decide +kernel
theorem hdX6_isEvenly : yX6_isEvenly.cls ≠ "java/lang/invoke/MethodHandle" ∧ yX6_isEvenly.cls ≠ "java/lang/invoke/VarHandle" ∧ (parseMethodDescriptor yX6_isEvenly.desc).map (fun d => d.parameters.length) = some 2 := by decide +kernel
theorem hdX6_by : yX6_by.cls ≠ "java/lang/invoke/MethodHandle" ∧ yX6_by.cls ≠ "java/lang/invoke/VarHandle" ∧ (parseMethodDescriptor yX6_by.desc).map (fun d => d.parameters.length) = some 3 := by decide +kernel
theorem hdX6_orders : yX6_orders.cls ≠ "java/lang/invoke/MethodHandle" ∧ yX6_orders.cls ≠ "java/lang/invoke/VarHandle" ∧ (parseMethodDescriptor yX6_orders.desc).map (fun d => d.parameters.length) = some 1 := by decide +kernel
theorem hdX6_layRank : yX6_layRank.cls ≠ "java/lang/invoke/MethodHandle" ∧ yX6_layRank.cls ≠ "java/lang/invoke/VarHandle" ∧ (parseMethodDescriptor yX6_layRank.desc).map (fun d => d.parameters.length) = some 2 := by decide +kernel
theorem hdX6_renumbered : yX6_renumbered.cls ≠ "java/lang/invoke/MethodHandle" ∧ yX6_renumbered.cls ≠ "java/lang/invoke/VarHandle" ∧ (parseMethodDescriptor yX6_renumbered.desc).map (fun d => d.parameters.length) = some 2 := by decide +kernel
theorem hdX6_kindOf : yX6_kindOf.cls ≠ "java/lang/invoke/MethodHandle" ∧ yX6_kindOf.cls ≠ "java/lang/invoke/VarHandle" ∧ (parseMethodDescriptor yX6_kindOf.desc).map (fun d => d.parameters.length) = some 2 := by decide +kernel
theorem hdX6_comesTo : yX6_comesTo.cls ≠ "java/lang/invoke/MethodHandle" ∧ yX6_comesTo.cls ≠ "java/lang/invoke/VarHandle" ∧ (parseMethodDescriptor yX6_comesTo.desc).map (fun d => d.parameters.length) = some 4 := by decide +kernel
theorem hdX6_setBetween : yX6_setBetween.cls ≠ "java/lang/invoke/MethodHandle" ∧ yX6_setBetween.cls ≠ "java/lang/invoke/VarHandle" ∧ (parseMethodDescriptor yX6_setBetween.desc).map (fun d => d.parameters.length) = some 2 := by decide +kernel
theorem hdX6_compare : yX6_compare.cls ≠ "java/lang/invoke/MethodHandle" ∧ yX6_compare.cls ≠ "java/lang/invoke/VarHandle" ∧ (parseMethodDescriptor yX6_compare.desc).map (fun d => d.parameters.length) = some 3 := by decide +kernel
theorem hdX6_kind : yX6_kind.cls ≠ "java/lang/invoke/MethodHandle" ∧ yX6_kind.cls ≠ "java/lang/invoke/VarHandle" ∧ (parseMethodDescriptor yX6_kind.desc).map (fun d => d.parameters.length) = some 2 := by decide +kernel
theorem hdX6_card : yX6_card.cls ≠ "java/lang/invoke/MethodHandle" ∧ yX6_card.cls ≠ "java/lang/invoke/VarHandle" ∧ (parseMethodDescriptor yX6_card.desc).map (fun d => d.parameters.length) = some 2 := by decide +kernel
theorem hdX6_layTable : yX6_layTable.cls ≠ "java/lang/invoke/MethodHandle" ∧ yX6_layTable.cls ≠ "java/lang/invoke/VarHandle" ∧ (parseMethodDescriptor yX6_layTable.desc).map (fun d => d.parameters.length) = some 2 := by decide +kernel
theorem hdX6_swapRows : yX6_swapRows.cls ≠ "java/lang/invoke/MethodHandle" ∧ yX6_swapRows.cls ≠ "java/lang/invoke/VarHandle" ∧ (parseMethodDescriptor yX6_swapRows.desc).map (fun d => d.parameters.length) = some 2 := by decide +kernel
theorem hdX6_rowWith : yX6_rowWith.cls ≠ "java/lang/invoke/MethodHandle" ∧ yX6_rowWith.cls ≠ "java/lang/invoke/VarHandle" ∧ (parseMethodDescriptor yX6_rowWith.desc).map (fun d => d.parameters.length) = some 2 := by decide +kernel
theorem hdX6_clearBelow : yX6_clearBelow.cls ≠ "java/lang/invoke/MethodHandle" ∧ yX6_clearBelow.cls ≠ "java/lang/invoke/VarHandle" ∧ (parseMethodDescriptor yX6_clearBelow.desc).map (fun d => d.parameters.length) = some 3 := by decide +kernel
theorem hdX6_workOut : yX6_workOut.cls ≠ "java/lang/invoke/MethodHandle" ∧ yX6_workOut.cls ≠ "java/lang/invoke/VarHandle" ∧ (parseMethodDescriptor yX6_workOut.desc).map (fun d => d.parameters.length) = some 0 := by decide +kernel
theorem hdX6_root : yX6_root.cls ≠ "java/lang/invoke/MethodHandle" ∧ yX6_root.cls ≠ "java/lang/invoke/VarHandle" ∧ (parseMethodDescriptor yX6_root.desc).map (fun d => d.parameters.length) = some 3 := by decide +kernel
theorem hdX6_image : yX6_image.cls ≠ "java/lang/invoke/MethodHandle" ∧ yX6_image.cls ≠ "java/lang/invoke/VarHandle" ∧ (parseMethodDescriptor yX6_image.desc).map (fun d => d.parameters.length) = some 1 := by decide +kernel
theorem hdX6_restore : yX6_restore.cls ≠ "java/lang/invoke/MethodHandle" ∧ yX6_restore.cls ≠ "java/lang/invoke/VarHandle" ∧ (parseMethodDescriptor yX6_restore.desc).map (fun d => d.parameters.length) = some 1 := by decide +kernel
theorem hdX6_classes : yX6_classes.cls ≠ "java/lang/invoke/MethodHandle" ∧ yX6_classes.cls ≠ "java/lang/invoke/VarHandle" ∧ (parseMethodDescriptor yX6_classes.desc).map (fun d => d.parameters.length) = some 1 := by decide +kernel
theorem hdX6_count : yX6_count.cls ≠ "java/lang/invoke/MethodHandle" ∧ yX6_count.cls ≠ "java/lang/invoke/VarHandle" ∧ (parseMethodDescriptor yX6_count.desc).map (fun d => d.parameters.length) = some 1 := by decide +kernel
theorem hdX0_clear : yX0_clear.cls ≠ "java/lang/invoke/MethodHandle" ∧ yX0_clear.cls ≠ "java/lang/invoke/VarHandle" ∧ (parseMethodDescriptor yX0_clear.desc).map (fun d => d.parameters.length) = some 1 := by decide +kernel
theorem hdX0_connect : yX0_connect.cls ≠ "java/lang/invoke/MethodHandle" ∧ yX0_connect.cls ≠ "java/lang/invoke/VarHandle" ∧ (parseMethodDescriptor yX0_connect.desc).map (fun d => d.parameters.length) = some 3 := by decide +kernel
theorem hdX0_takeNumber : yX0_takeNumber.cls ≠ "java/lang/invoke/MethodHandle" ∧ yX0_takeNumber.cls ≠ "java/lang/invoke/VarHandle" ∧ (parseMethodDescriptor yX0_takeNumber.desc).map (fun d => d.parameters.length) = some 1 := by decide +kernel
theorem hdX0_takePairs : yX0_takePairs.cls ≠ "java/lang/invoke/MethodHandle" ∧ yX0_takePairs.cls ≠ "java/lang/invoke/VarHandle" ∧ (parseMethodDescriptor yX0_takePairs.desc).map (fun d => d.parameters.length) = some 1 := by decide +kernel
theorem hdX0_takeTriples : yX0_takeTriples.cls ≠ "java/lang/invoke/MethodHandle" ∧ yX0_takeTriples.cls ≠ "java/lang/invoke/VarHandle" ∧ (parseMethodDescriptor yX0_takeTriples.desc).map (fun d => d.parameters.length) = some 1 := by decide +kernel
theorem hdX0_copySwitched : yX0_copySwitched.cls ≠ "java/lang/invoke/MethodHandle" ∧ yX0_copySwitched.cls ≠ "java/lang/invoke/VarHandle" ∧ (parseMethodDescriptor yX0_copySwitched.desc).map (fun d => d.parameters.length) = some 2 := by decide +kernel
theorem hdX0_switchBy : yX0_switchBy.cls ≠ "java/lang/invoke/MethodHandle" ∧ yX0_switchBy.cls ≠ "java/lang/invoke/VarHandle" ∧ (parseMethodDescriptor yX0_switchBy.desc).map (fun d => d.parameters.length) = some 1 := by decide +kernel
theorem hdX0_leaveAlone : yX0_leaveAlone.cls ≠ "java/lang/invoke/MethodHandle" ∧ yX0_leaveAlone.cls ≠ "java/lang/invoke/VarHandle" ∧ (parseMethodDescriptor yX0_leaveAlone.desc).map (fun d => d.parameters.length) = some 1 := by decide +kernel
theorem hdX0_drop : yX0_drop.cls ≠ "java/lang/invoke/MethodHandle" ∧ yX0_drop.cls ≠ "java/lang/invoke/VarHandle" ∧ (parseMethodDescriptor yX0_drop.desc).map (fun d => d.parameters.length) = some 1 := by decide +kernel
theorem hdX0_allNodes : yX0_allNodes.cls ≠ "java/lang/invoke/MethodHandle" ∧ yX0_allNodes.cls ≠ "java/lang/invoke/VarHandle" ∧ (parseMethodDescriptor yX0_allNodes.desc).map (fun d => d.parameters.length) = some 0 := by decide +kernel
theorem hdX0_number : yX0_number.cls ≠ "java/lang/invoke/MethodHandle" ∧ yX0_number.cls ≠ "java/lang/invoke/VarHandle" ∧ (parseMethodDescriptor yX0_number.desc).map (fun d => d.parameters.length) = some 0 := by decide +kernel
theorem hdX0_joined : yX0_joined.cls ≠ "java/lang/invoke/MethodHandle" ∧ yX0_joined.cls ≠ "java/lang/invoke/VarHandle" ∧ (parseMethodDescriptor yX0_joined.desc).map (fun d => d.parameters.length) = some 2 := by decide +kernel
theorem hdX0_degree : yX0_degree.cls ≠ "java/lang/invoke/MethodHandle" ∧ yX0_degree.cls ≠ "java/lang/invoke/VarHandle" ∧ (parseMethodDescriptor yX0_degree.desc).map (fun d => d.parameters.length) = some 1 := by decide +kernel
theorem hdX0_shared : yX0_shared.cls ≠ "java/lang/invoke/MethodHandle" ∧ yX0_shared.cls ≠ "java/lang/invoke/VarHandle" ∧ (parseMethodDescriptor yX0_shared.desc).map (fun d => d.parameters.length) = some 2 := by decide +kernel
theorem hdX0_joinedPairs : yX0_joinedPairs.cls ≠ "java/lang/invoke/MethodHandle" ∧ yX0_joinedPairs.cls ≠ "java/lang/invoke/VarHandle" ∧ (parseMethodDescriptor yX0_joinedPairs.desc).map (fun d => d.parameters.length) = some 0 := by decide +kernel
theorem hdX0_isOdd : yX0_isOdd.cls ≠ "java/lang/invoke/MethodHandle" ∧ yX0_isOdd.cls ≠ "java/lang/invoke/VarHandle" ∧ (parseMethodDescriptor yX0_isOdd.desc).map (fun d => d.parameters.length) = some 3 := by decide +kernel
theorem hdX0_oddTriplesAtPair : yX0_oddTriplesAtPair.cls ≠ "java/lang/invoke/MethodHandle" ∧ yX0_oddTriplesAtPair.cls ≠ "java/lang/invoke/VarHandle" ∧ (parseMethodDescriptor yX0_oddTriplesAtPair.desc).map (fun d => d.parameters.length) = some 2 := by decide +kernel
theorem hdX0_oddTriplesAtNode : yX0_oddTriplesAtNode.cls ≠ "java/lang/invoke/MethodHandle" ∧ yX0_oddTriplesAtNode.cls ≠ "java/lang/invoke/VarHandle" ∧ (parseMethodDescriptor yX0_oddTriplesAtNode.desc).map (fun d => d.parameters.length) = some 1 := by decide +kernel
theorem hdX0_oddTriples : yX0_oddTriples.cls ≠ "java/lang/invoke/MethodHandle" ∧ yX0_oddTriples.cls ≠ "java/lang/invoke/VarHandle" ∧ (parseMethodDescriptor yX0_oddTriples.desc).map (fun d => d.parameters.length) = some 0 := by decide +kernel
theorem hdX0_oddTriplesOfEachPair : yX0_oddTriplesOfEachPair.cls ≠ "java/lang/invoke/MethodHandle" ∧ yX0_oddTriplesOfEachPair.cls ≠ "java/lang/invoke/VarHandle" ∧ (parseMethodDescriptor yX0_oddTriplesOfEachPair.desc).map (fun d => d.parameters.length) = some 0 := by decide +kernel
theorem hdX0_oddDegrees : yX0_oddDegrees.cls ≠ "java/lang/invoke/MethodHandle" ∧ yX0_oddDegrees.cls ≠ "java/lang/invoke/VarHandle" ∧ (parseMethodDescriptor yX0_oddDegrees.desc).map (fun d => d.parameters.length) = some 0 := by decide +kernel
theorem hdX0_eachDegreeIs : yX0_eachDegreeIs.cls ≠ "java/lang/invoke/MethodHandle" ∧ yX0_eachDegreeIs.cls ≠ "java/lang/invoke/VarHandle" ∧ (parseMethodDescriptor yX0_eachDegreeIs.desc).map (fun d => d.parameters.length) = some 1 := by decide +kernel
theorem hdX0_isStrong : yX0_isStrong.cls ≠ "java/lang/invoke/MethodHandle" ∧ yX0_isStrong.cls ≠ "java/lang/invoke/VarHandle" ∧ (parseMethodDescriptor yX0_isStrong.desc).map (fun d => d.parameters.length) = some 0 := by decide +kernel
theorem hdX0_eachPairSharesAlike : yX0_eachPairSharesAlike.cls ≠ "java/lang/invoke/MethodHandle" ∧ yX0_eachPairSharesAlike.cls ≠ "java/lang/invoke/VarHandle" ∧ (parseMethodDescriptor yX0_eachPairSharesAlike.desc).map (fun d => d.parameters.length) = some 1 := by decide +kernel
theorem hdX0_areTwins : yX0_areTwins.cls ≠ "java/lang/invoke/MethodHandle" ∧ yX0_areTwins.cls ≠ "java/lang/invoke/VarHandle" ∧ (parseMethodDescriptor yX0_areTwins.desc).map (fun d => d.parameters.length) = some 2 := by decide +kernel
theorem hdX1_put : yX1_put.cls ≠ "java/lang/invoke/MethodHandle" ∧ yX1_put.cls ≠ "java/lang/invoke/VarHandle" ∧ (parseMethodDescriptor yX1_put.desc).map (fun d => d.parameters.length) = some 1 := by decide +kernel
theorem hdX1_tells : yX1_tells.cls ≠ "java/lang/invoke/MethodHandle" ∧ yX1_tells.cls ≠ "java/lang/invoke/VarHandle" ∧ (parseMethodDescriptor yX1_tells.desc).map (fun d => d.parameters.length) = some 1 := by decide +kernel
theorem hdX1_faultFor : yX1_faultFor.cls ≠ "java/lang/invoke/MethodHandle" ∧ yX1_faultFor.cls ≠ "java/lang/invoke/VarHandle" ∧ (parseMethodDescriptor yX1_faultFor.desc).map (fun d => d.parameters.length) = some 1 := by decide +kernel
theorem hdX2_kindOfClass : yX2_kindOfClass.cls ≠ "java/lang/invoke/MethodHandle" ∧ yX2_kindOfClass.cls ≠ "java/lang/invoke/VarHandle" ∧ (parseMethodDescriptor yX2_kindOfClass.desc).map (fun d => d.parameters.length) = some 1 := by decide +kernel
theorem hdX2_leastNumber : yX2_leastNumber.cls ≠ "java/lang/invoke/MethodHandle" ∧ yX2_leastNumber.cls ≠ "java/lang/invoke/VarHandle" ∧ (parseMethodDescriptor yX2_leastNumber.desc).map (fun d => d.parameters.length) = some 4 := by decide +kernel
theorem hdX2_lowestColumn : yX2_lowestColumn.cls ≠ "java/lang/invoke/MethodHandle" ∧ yX2_lowestColumn.cls ≠ "java/lang/invoke/VarHandle" ∧ (parseMethodDescriptor yX2_lowestColumn.desc).map (fun d => d.parameters.length) = some 4 := by decide +kernel
theorem hdX2_column : yX2_column.cls ≠ "java/lang/invoke/MethodHandle" ∧ yX2_column.cls ≠ "java/lang/invoke/VarHandle" ∧ (parseMethodDescriptor yX2_column.desc).map (fun d => d.parameters.length) = some 4 := by decide +kernel
theorem hdX2_hasTwin : yX2_hasTwin.cls ≠ "java/lang/invoke/MethodHandle" ∧ yX2_hasTwin.cls ≠ "java/lang/invoke/VarHandle" ∧ (parseMethodDescriptor yX2_hasTwin.desc).map (fun d => d.parameters.length) = some 3 := by decide +kernel
theorem hdX2_numberAsGiven : yX2_numberAsGiven.cls ≠ "java/lang/invoke/MethodHandle" ∧ yX2_numberAsGiven.cls ≠ "java/lang/invoke/VarHandle" ∧ (parseMethodDescriptor yX2_numberAsGiven.desc).map (fun d => d.parameters.length) = some 2 := by decide +kernel
theorem hdX2_brings : yX2_brings.cls ≠ "java/lang/invoke/MethodHandle" ∧ yX2_brings.cls ≠ "java/lang/invoke/VarHandle" ∧ (parseMethodDescriptor yX2_brings.desc).map (fun d => d.parameters.length) = some 2 := by decide +kernel
theorem hdX2_keepersOfClass : yX2_keepersOfClass.cls ≠ "java/lang/invoke/MethodHandle" ∧ yX2_keepersOfClass.cls ≠ "java/lang/invoke/VarHandle" ∧ (parseMethodDescriptor yX2_keepersOfClass.desc).map (fun d => d.parameters.length) = some 2 := by decide +kernel
theorem hdX2_keepersOfNet : yX2_keepersOfNet.cls ≠ "java/lang/invoke/MethodHandle" ∧ yX2_keepersOfNet.cls ≠ "java/lang/invoke/VarHandle" ∧ (parseMethodDescriptor yX2_keepersOfNet.desc).map (fun d => d.parameters.length) = some 2 := by decide +kernel
theorem hdX2_placesOf : yX2_placesOf.cls ≠ "java/lang/invoke/MethodHandle" ∧ yX2_placesOf.cls ≠ "java/lang/invoke/VarHandle" ∧ (parseMethodDescriptor yX2_placesOf.desc).map (fun d => d.parameters.length) = some 2 := by decide +kernel
theorem hdX2_canGoOn : yX2_canGoOn.cls ≠ "java/lang/invoke/MethodHandle" ∧ yX2_canGoOn.cls ≠ "java/lang/invoke/VarHandle" ∧ (parseMethodDescriptor yX2_canGoOn.desc).map (fun d => d.parameters.length) = some 5 := by decide +kernel
theorem hdX2_goesTo : yX2_goesTo.cls ≠ "java/lang/invoke/MethodHandle" ∧ yX2_goesTo.cls ≠ "java/lang/invoke/VarHandle" ∧ (parseMethodDescriptor yX2_goesTo.desc).map (fun d => d.parameters.length) = some 5 := by decide +kernel
theorem hdX3_clear : yX3_clear.cls ≠ "java/lang/invoke/MethodHandle" ∧ yX3_clear.cls ≠ "java/lang/invoke/VarHandle" ∧ (parseMethodDescriptor yX3_clear.desc).map (fun d => d.parameters.length) = some 1 := by decide +kernel
theorem hdX3_copy : yX3_copy.cls ≠ "java/lang/invoke/MethodHandle" ∧ yX3_copy.cls ≠ "java/lang/invoke/VarHandle" ∧ (parseMethodDescriptor yX3_copy.desc).map (fun d => d.parameters.length) = some 1 := by decide +kernel
theorem hdX3_isUnused : yX3_isUnused.cls ≠ "java/lang/invoke/MethodHandle" ∧ yX3_isUnused.cls ≠ "java/lang/invoke/VarHandle" ∧ (parseMethodDescriptor yX3_isUnused.desc).map (fun d => d.parameters.length) = some 0 := by decide +kernel
theorem hdX4_fill : yX4_fill.cls ≠ "java/lang/invoke/MethodHandle" ∧ yX4_fill.cls ≠ "java/lang/invoke/VarHandle" ∧ (parseMethodDescriptor yX4_fill.desc).map (fun d => d.parameters.length) = some 2 := by decide +kernel
theorem hdX4_eliminate : yX4_eliminate.cls ≠ "java/lang/invoke/MethodHandle" ∧ yX4_eliminate.cls ≠ "java/lang/invoke/VarHandle" ∧ (parseMethodDescriptor yX4_eliminate.desc).map (fun d => d.parameters.length) = some 0 := by decide +kernel
theorem hdX4_pivotRow : yX4_pivotRow.cls ≠ "java/lang/invoke/MethodHandle" ∧ yX4_pivotRow.cls ≠ "java/lang/invoke/VarHandle" ∧ (parseMethodDescriptor yX4_pivotRow.desc).map (fun d => d.parameters.length) = some 1 := by decide +kernel
theorem hdX4_bringUp : yX4_bringUp.cls ≠ "java/lang/invoke/MethodHandle" ∧ yX4_bringUp.cls ≠ "java/lang/invoke/VarHandle" ∧ (parseMethodDescriptor yX4_bringUp.desc).map (fun d => d.parameters.length) = some 1 := by decide +kernel
theorem hdX4_clearBelow : yX4_clearBelow.cls ≠ "java/lang/invoke/MethodHandle" ∧ yX4_clearBelow.cls ≠ "java/lang/invoke/VarHandle" ∧ (parseMethodDescriptor yX4_clearBelow.desc).map (fun d => d.parameters.length) = some 1 := by decide +kernel
theorem hdX4_determinant : yX4_determinant.cls ≠ "java/lang/invoke/MethodHandle" ∧ yX4_determinant.cls ≠ "java/lang/invoke/VarHandle" ∧ (parseMethodDescriptor yX4_determinant.desc).map (fun d => d.parameters.length) = some 0 := by decide +kernel
theorem hdJ6_bitCount_0f7a4 : yJ6_bitCount_0f7a4.cls ≠ "java/lang/invoke/MethodHandle" ∧ yJ6_bitCount_0f7a4.cls ≠ "java/lang/invoke/VarHandle" ∧ (parseMethodDescriptor yJ6_bitCount_0f7a4.desc).map (fun d => d.parameters.length) = some 1 := by decide +kernel
theorem hdJ7_fill_53178 : yJ7_fill_53178.cls ≠ "java/lang/invoke/MethodHandle" ∧ yJ7_fill_53178.cls ≠ "java/lang/invoke/VarHandle" ∧ (parseMethodDescriptor yJ7_fill_53178.desc).map (fun d => d.parameters.length) = some 2 := by decide +kernel
abbrev rm_J6_bitCount_0f7a4 : Room := { frames := 0, cells := 0, slots := 0, locals := 0 }
set_option maxHeartbeats 4000000 in
set_option maxRecDepth 100000 in
theorem k_J6_bitCount_0f7a4 {l : Launch} {D : va_G} {cI cJ cZ cS cA : ClassId}   (v0 : Int32) (out : Int32) (hM : M_J6_bitCount_0f7a4 v0 = some out) : on_Con l yJ6_bitCount_0f7a4 wsJ6_bitCount_0f7a4 rm_J6_bitCount_0f7a4 [.int v0] D (on_T cI cJ cZ cS cA) [] (some (.int out)) [] := by
  unfold M_J6_bitCount_0f7a4 at hM
  refine on_enter (cc := cJ6_bitCount_0f7a4) (nL := 1) (rt := (some .int)) (own := RJ6) (by decide +kernel) rfl rfl (Nat.le_of_ble_eq_true rfl) ?_
  intro p e s m below meth c A ls hx hb hml hr hlk hts hown hA hK hN H locs hP hD hS hl
  have hl : lv_has ls 1 [(0, .int v0)] := hl
  generalize hQ : MQ below (on_Q D (some (.int out)) [] A) _ s 0 0 A = Q
  generalize hAr : List.toArray ([.int v0] : List Value) = args at hts hQ ⊢
  have w1 := hts (.constant RJ6 265 (1431655765)) (by decide +kernel)
  have w2 := hts (.constant RJ6 266 (858993459)) (by decide +kernel)
  have w3 := hts (.constant RJ6 267 (252645135)) (by decide +kernel)
  refine lv_iload_n hx hb dJ6_bitCount_0f7a4_0 rfl (lv_at hl 0 rfl) ?_
  refine lv_iload_n hx hb dJ6_bitCount_0f7a4_1 rfl (lv_at hl 0 rfl) ?_
  refine lv_iconst (v := 1) hx hb dJ6_bitCount_0f7a4_2 (by decide) ?_
  refine lv_iushr hx hb dJ6_bitCount_0f7a4_3 rfl ?_
  refine lv_ldcw hx hb hown w1 dJ6_bitCount_0f7a4_4 ?_
  refine lv_iand hx hb dJ6_bitCount_0f7a4_7 ?_
  refine lv_isub hx hb dJ6_bitCount_0f7a4_8 ?_
  refine lv_topi (fun v0_1 ev0_1 => ?_)
  have hM := on_letE ev0_1 hM
  refine lv_istore_n (lv' := [(0, .int v0_1)]) hx hb dJ6_bitCount_0f7a4_9 rfl hl (by decide) rfl (fun ls hl => ?_)
  refine lv_iload_n hx hb dJ6_bitCount_0f7a4_10 rfl (lv_at hl 0 rfl) ?_
  refine lv_ldcw hx hb hown w2 dJ6_bitCount_0f7a4_11 ?_
  refine lv_iand hx hb dJ6_bitCount_0f7a4_14 ?_
  refine lv_iload_n hx hb dJ6_bitCount_0f7a4_15 rfl (lv_at hl 0 rfl) ?_
  refine lv_iconst (v := 2) hx hb dJ6_bitCount_0f7a4_16 (by decide) ?_
  refine lv_iushr hx hb dJ6_bitCount_0f7a4_17 rfl ?_
  refine lv_ldcw hx hb hown w2 dJ6_bitCount_0f7a4_18 ?_
  refine lv_iand hx hb dJ6_bitCount_0f7a4_21 ?_
  refine lv_iadd hx hb dJ6_bitCount_0f7a4_22 ?_
  refine lv_topi (fun v0_2 ev0_2 => ?_)
  have hM := on_letE ev0_2 hM
  refine lv_istore_n (lv' := [(0, .int v0_2)]) hx hb dJ6_bitCount_0f7a4_23 rfl hl (by decide) rfl (fun ls hl => ?_)
  refine lv_iload_n hx hb dJ6_bitCount_0f7a4_24 rfl (lv_at hl 0 rfl) ?_
  refine lv_iload_n hx hb dJ6_bitCount_0f7a4_25 rfl (lv_at hl 0 rfl) ?_
  refine lv_iconst (v := 4) hx hb dJ6_bitCount_0f7a4_26 (by decide) ?_
  refine lv_iushr hx hb dJ6_bitCount_0f7a4_27 rfl ?_
  refine lv_iadd hx hb dJ6_bitCount_0f7a4_28 ?_
  refine lv_ldcw hx hb hown w3 dJ6_bitCount_0f7a4_29 ?_
  refine lv_iand hx hb dJ6_bitCount_0f7a4_32 ?_
  refine lv_topi (fun v0_3 ev0_3 => ?_)
  have hM := on_letE ev0_3 hM
  refine lv_istore_n (lv' := [(0, .int v0_3)]) hx hb dJ6_bitCount_0f7a4_33 rfl hl (by decide) rfl (fun ls hl => ?_)
  refine lv_iload_n hx hb dJ6_bitCount_0f7a4_34 rfl (lv_at hl 0 rfl) ?_
  refine lv_iload_n hx hb dJ6_bitCount_0f7a4_35 rfl (lv_at hl 0 rfl) ?_
  refine lv_bipush (v := 8) hx hb dJ6_bitCount_0f7a4_36 (by decide) ?_
  refine lv_iushr hx hb dJ6_bitCount_0f7a4_38 rfl ?_
  refine lv_iadd hx hb dJ6_bitCount_0f7a4_39 ?_
  refine lv_topi (fun v0_4 ev0_4 => ?_)
  have hM := on_letE ev0_4 hM
  refine lv_istore_n (lv' := [(0, .int v0_4)]) hx hb dJ6_bitCount_0f7a4_40 rfl hl (by decide) rfl (fun ls hl => ?_)
  refine lv_iload_n hx hb dJ6_bitCount_0f7a4_41 rfl (lv_at hl 0 rfl) ?_
  refine lv_iload_n hx hb dJ6_bitCount_0f7a4_42 rfl (lv_at hl 0 rfl) ?_
  refine lv_bipush (v := 16) hx hb dJ6_bitCount_0f7a4_43 (by decide) ?_
  refine lv_iushr hx hb dJ6_bitCount_0f7a4_45 rfl ?_
  refine lv_iadd hx hb dJ6_bitCount_0f7a4_46 ?_
  refine lv_topi (fun v0_5 ev0_5 => ?_)
  have hM := on_letE ev0_5 hM
  refine lv_istore_n (lv' := [(0, .int v0_5)]) hx hb dJ6_bitCount_0f7a4_47 rfl hl (by decide) rfl (fun ls hl => ?_)
  refine lv_iload_n hx hb dJ6_bitCount_0f7a4_48 rfl (lv_at hl 0 rfl) ?_
  refine lv_bipush (v := 63) hx hb dJ6_bitCount_0f7a4_49 (by decide) ?_
  refine lv_iand hx hb dJ6_bitCount_0f7a4_51 ?_
  have hM := Option.some.inj hM
  subst hM
  rw [← hQ]
  exact on_iret hx hb hr hlk hP hD hS dJ6_bitCount_0f7a4_52
abbrev rm_J7_fill_53178 : Room := { frames := 0, cells := 0, slots := 0, locals := 0 }
set_option maxHeartbeats 4000000 in
set_option maxRecDepth 100000 in
theorem k_J7_fill_53178 {l : Launch} {D : va_G} {cI cJ cZ cS cA : ClassId} (h_p0 : Nat) (n_p0 : Nat) (p0 : Nat → Int32) (v1 : Int32) (out : (Nat → Int32)) (hM : M_J7_fill_53178 n_p0 v1 p0 = some out) : on_Con l yJ7_fill_53178 wsJ7_fill_53178 rm_J7_fill_53178 [.ref h_p0, .int v1] D (on_T cI cJ cZ cS cA) [(h_p0, .inl (cI, n_p0, .inl p0))] none [(h_p0, .inl (cI, n_p0, .inl out))] := by
  unfold M_J7_fill_53178 at hM
  refine on_enter (cc := cJ7_fill_53178) (nL := 4) (rt := none) (own := RJ7) (by decide +kernel) rfl rfl (Nat.le_of_ble_eq_true rfl) ?_
  intro p e s m below meth c A ls hx hb hml hr hlk hts hown hA hK hN H locs hP hD hS hl
  have hl : lv_has ls 4 [(0, .ref h_p0), (1, .int v1)] := hl
  generalize hQ : MQ below (on_Q D none [(h_p0, .inl (cI, n_p0, .inl out))] A) _ s 0 0 A = Q
  generalize hAr : List.toArray ([.ref h_p0, .int v1] : List Value) = args at hts hQ ⊢
  have lp_5 : ∀ (v1 : Int32) (v3 : Int32), ∀ (n : Nat) (v2 : Int32) (p0 : Nat → Int32) (x : (Nat → Int32)), on_loop (fun (s : Int32 × (Nat → Int32)) => B_J7_fill_53178_5 n_p0 v1 v3 s.1 s.2) n (v2, p0) = some x → (∀ (H : Heap) (locs : List Loc), va_P D vwCl [(h_p0, .inl (cI, n_p0, .inl x))] H → va_D A [(h_p0, .inl (cI, n_p0, .inl x))] → va_S A s.heap H locs → ∀ ls : Array Slot, lv_has ls 4 [] → W p l e rm_J7_fill_53178 s m args below meth c H locs 0 0 Q (F0 m 20 ls [])) → ∀ (H : Heap) (locs : List Loc), va_P D vwCl [(h_p0, .inl (cI, n_p0, .inl p0))] H → va_D A [(h_p0, .inl (cI, n_p0, .inl p0))] → va_S A s.heap H locs → ∀ ls : Array Slot, lv_has ls 4 [(0, .ref h_p0), (1, .int v1), (2, .int v2), (3, .int v3)] → W p l e rm_J7_fill_53178 s m args below meth c H locs 0 0 Q (F0 m 5 ls []) := by
    intro v1 v3
    intro n
    induction n with
    | zero =>
      intro v2 p0 x hL
      exact (on_loop0 hL).elim
    | succ n ih =>
      intro v2 p0 x hL K1 H locs hP hD hS ls hl
      obtain ⟨y, hM, hk⟩ := on_loopE hL
      have hM : B_J7_fill_53178_5 n_p0 v1 v3 v2 p0 = some y := hM
      unfold B_J7_fill_53178_5 at hM
      refine lv_iload_n hx hb dJ7_fill_53178_5 rfl (lv_at hl 2 rfl) ?_
      refine lv_iload_n hx hb dJ7_fill_53178_6 rfl (lv_at hl 3 rfl) ?_
      refine lv_icmp_ge (tgt := 20) hx hb dJ7_fill_53178_7 (by decide) (fun c_2 => ?_) (fun c_2 => ?_)
      · have hM := on_pos c_2 hM
        have hk := on_nxR hM hk
        subst hk
        exact K1 _ _ hP hD hS ls (lv_sub hl [] rfl)
      · have hM := on_neg c_2 hM
        refine lv_aload_n hx hb dJ7_fill_53178_10 rfl (lv_at hl 0 rfl) ?_
        refine lv_iload_n hx hb dJ7_fill_53178_11 rfl (lv_at hl 2 rfl) ?_
        refine lv_iload_n hx hb dJ7_fill_53178_12 rfl (lv_at hl 1 rfl) ?_
        obtain ⟨g_3, hM⟩ := on_gdE hM
        refine va_iast hx hb hK hP hD hS 0 0 rfl rfl (on_ixE g_3) dJ7_fill_53178_13 (fun H locs hP hD hS => ?_)
        have hP : va_P D vwCl [(h_p0, .inl (cI, n_p0, .inl (upd p0 (Int32.toNatClampNeg v2) v1)))] H := hP
        have hD : va_D A [(h_p0, .inl (cI, n_p0, .inl (upd p0 (Int32.toNatClampNeg v2) v1)))] := hD
        obtain ⟨v2_4, ev2_4⟩ : ∃ z : Int32, z = v2 + 1 := ⟨_, rfl⟩
        have hM := on_letE ev2_4 hM
        refine lv_iinc (v := v2_4) (lv' := [(2, .int v2_4), (0, .ref h_p0), (1, .int v1), (3, .int v3)]) hx hb dJ7_fill_53178_14 hl (k := 2) rfl (by rw [ev2_4]; rfl) (by decide) rfl (fun ls hl => ?_)
        refine lv_goto (tgt := 5) hx hb dJ7_fill_53178_17 (by decide) ?_
        have hk := on_nxL hM hk
        exact ih v2_4 (upd p0 (Int32.toNatClampNeg v2) v1) _ hk K1 _ _ hP hD hS ls (lv_sub hl [1, 2, 0, 3] rfl)
  refine lv_iconst (v := 0) hx hb dJ7_fill_53178_0 (by decide) ?_
  refine lv_istore_n (lv' := [(2, .int (0 : Int32)), (0, .ref h_p0), (1, .int v1)]) hx hb dJ7_fill_53178_1 rfl hl (by decide) rfl (fun ls hl => ?_)
  refine lv_aload_n hx hb dJ7_fill_53178_2 rfl (lv_at hl 1 rfl) ?_
  refine va_alen hx hb hK hP 0 0 rfl rfl rfl dJ7_fill_53178_3 ?_
  refine lv_topi (fun v3_1 ev3_1 => ?_)
  have hM := on_letE ev3_1 hM
  refine lv_istore_n (lv' := [(3, .int v3_1), (2, .int (0 : Int32)), (0, .ref h_p0), (1, .int v1)]) hx hb dJ7_fill_53178_4 rfl hl (by decide) rfl (fun ls hl => ?_)
  obtain ⟨q_5, hq_5, hM⟩ := on_bind hM
  refine lp_5 v1 v3_1 on_F (0 : Int32) p0 q_5 hq_5 (fun H locs hP hD hS ls hl => ?_) H locs hP hD hS ls (lv_sub hl [2, 3, 1, 0] rfl)
  have hM := Option.some.inj hM
  subst hM
  rw [← hQ]
  exact on_vret hx hb hr hlk hP hD hS dJ7_fill_53178_20
