theorem ml_W_94 : ML RL 94 yX9_run cX9_run 2 (some .int) 9 1 := ⟨⟨TX9, 56, rfl⟩, gall (by decide +kernel) (by decide +kernel), by decide +kernel, by decide +kernel, by decide +kernel⟩
theorem ml_W_97 : ML RL 97 yX8_way cX8_way 6 (some .int) 8 3 := ⟨⟨TX8, 4, rfl⟩, gall (by decide +kernel) (by decide +kernel), by decide +kernel, by decide +kernel, by decide +kernel⟩
theorem ml_W_101 : ML RL 101 yX9_way cX9_way 5 (some .int) 9 3 := ⟨⟨TX9, 56, rfl⟩, gall (by decide +kernel) (by decide +kernel), by decide +kernel, by decide +kernel, by decide +kernel⟩
theorem ml_W_102 : ML RL 102 yX8_along cX8_along 6 (some .int) 8 3 := ⟨⟨TX8, 4, rfl⟩, gall (by decide +kernel) (by decide +kernel), by decide +kernel, by decide +kernel, by decide +kernel⟩
theorem ml_W_105 : ML RL 105 yX9_along cX9_along 5 (some .int) 9 3 := ⟨⟨TX9, 56, rfl⟩, gall (by decide +kernel) (by decide +kernel), by decide +kernel, by decide +kernel, by decide +kernel⟩
theorem ml_W_106 : ML RL 106 yX8_table cX8_table 5 (some .long) 8 3 := ⟨⟨TX8, 4, rfl⟩, gall (by decide +kernel) (by decide +kernel), by decide +kernel, by decide +kernel, by decide +kernel⟩
theorem ml_W_109 : ML RL 109 yX9_table cX9_table 4 (some .long) 9 3 := ⟨⟨TX9, 56, rfl⟩, gall (by decide +kernel) (by decide +kernel), by decide +kernel, by decide +kernel, by decide +kernel⟩
theorem ml_W_110 : ML RL 110 yX8_told cX8_told 4 (some .long) 8 2 := ⟨⟨TX8, 4, rfl⟩, gall (by decide +kernel) (by decide +kernel), by decide +kernel, by decide +kernel, by decide +kernel⟩
theorem ml_W_113 : ML RL 113 yX9_told cX9_told 8 (some .long) 9 2 := ⟨⟨TX9, 56, rfl⟩, gall (by decide +kernel) (by decide +kernel), by decide +kernel, by decide +kernel, by decide +kernel⟩
theorem ml_W_114 : ML RL 114 yX8_blur cX8_blur 5 (some .boolean) 8 3 := ⟨⟨TX8, 4, rfl⟩, gall (by decide +kernel) (by decide +kernel), by decide +kernel, by decide +kernel, by decide +kernel⟩
theorem ml_W_117 : ML RL 117 yX9_blur cX9_blur 4 (some .boolean) 9 3 := ⟨⟨TX9, 56, rfl⟩, gall (by decide +kernel) (by decide +kernel), by decide +kernel, by decide +kernel, by decide +kernel⟩
theorem ml_W_118 : ML RL 118 yX8_mend cX8_mend 3 (some .long) 8 1 := ⟨⟨TX8, 4, rfl⟩, gall (by decide +kernel) (by decide +kernel), by decide +kernel, by decide +kernel, by decide +kernel⟩
theorem ml_W_122 : ML RL 122 yX9_mend cX9_mend 11 (some .long) 9 1 := ⟨⟨TX9, 56, rfl⟩, gall (by decide +kernel) (by decide +kernel), by decide +kernel, by decide +kernel, by decide +kernel⟩
theorem kl_W : Cond.constantLong RL 95 4294967295 ∈ GW := gall (ws := [Cond.constantLong RL 95 4294967295]) (by decide +kernel) (by decide +kernel) _ (List.mem_cons_self)
