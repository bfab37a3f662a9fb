theorem G_eq {p : Program} {l : Launch} {e : Env} {R : Room} {s : State} {m : MethodId} {args : Array Value} {below : List Frame} {meth : Method} {c : Code} {A : Nat → Prop} {H0 : Heap} {Q : State → Prop} {D : va_G} {nL cs sl : Nat} {pc : Nat} {lv : List (Nat × Value)} {st : List Value} {ws ws' : va_W} (h : ws = ws') (kk : G p l e R s m args below meth c A H0 Q D nL cs sl pc lv st ws') : G p l e R s m args below meth c A H0 Q D nL cs sl pc lv st ws := h ▸ kk
theorem ac_I : Cond.arrayClass .int ∈ GW := gall (ws := [Cond.arrayClass .int]) (by decide +kernel) (by decide +kernel) _ (List.mem_cons_self)
theorem ac_J : Cond.arrayClass .long ∈ GW := gall (ws := [Cond.arrayClass .long]) (by decide +kernel) (by decide +kernel) _ (List.mem_cons_self)
theorem ac_Z : Cond.arrayClass .boolean ∈ GW := gall (ws := [Cond.arrayClass .boolean]) (by decide +kernel) (by decide +kernel) _ (List.mem_cons_self)
theorem ck_X6_9 : Cond.classLink RX6 9 "CounterPlacer$Routine" ∈ GW := gall (ws := [Cond.classLink RX6 9 "CounterPlacer$Routine"]) (by decide +kernel) (by decide +kernel) _ (List.mem_cons_self)
theorem ff_X0_15 : FF RX0 15 0 1 (.array .long) := ⟨RX0, TX0, 5, tyX0, rfl, by decide, uw0, gwm 354 (by decide +kernel) (by decide +kernel), tyX0_ok, nmX0, rfl, by decide +kernel⟩
theorem ff_X0_18 : FF RX0 18 0 2 (.array .long) := ⟨RX0, TX0, 5, tyX0, rfl, by decide, uw0, gwm 356 (by decide +kernel) (by decide +kernel), tyX0_ok, nmX0, rfl, by decide +kernel⟩
theorem ff_X0_9 : FF RX0 9 0 0 (.array .long) := ⟨RX0, TX0, 5, tyX0, rfl, by decide, uw0, gwm 352 (by decide +kernel) (by decide +kernel), tyX0_ok, nmX0, rfl, by decide +kernel⟩
theorem ff_X1_15 : FF RX1 15 1 1 (.array .int) := ⟨RX1, TX1, 4, tyX1, rfl, by decide, uw1, gwm 138 (by decide +kernel) (by decide +kernel), tyX1_ok, nmX1, rfl, by decide +kernel⟩
theorem ff_X1_18 : FF RX1 18 1 2 (.array .int) := ⟨RX1, TX1, 4, tyX1, rfl, by decide, uw1, gwm 139 (by decide +kernel) (by decide +kernel), tyX1_ok, nmX1, rfl, by decide +kernel⟩
theorem ff_X1_21 : FF RX1 21 1 3 (.array .int) := ⟨RX1, TX1, 4, tyX1, rfl, by decide, uw1, gwm 140 (by decide +kernel) (by decide +kernel), tyX1_ok, nmX1, rfl, by decide +kernel⟩
theorem ff_X1_9 : FF RX1 9 1 0 (.array .int) := ⟨RX1, TX1, 4, tyX1, rfl, by decide, uw1, gwm 137 (by decide +kernel) (by decide +kernel), tyX1_ok, nmX1, rfl, by decide +kernel⟩
theorem ff_X3_15 : FF RX3 15 3 1 (.array .int) := ⟨RX3, TX3, 13, tyX3, rfl, by decide, uw3, gwm 178 (by decide +kernel) (by decide +kernel), tyX3_ok, nmX3, rfl, by decide +kernel⟩
theorem ff_X3_18 : FF RX3 18 3 2 (.array .int) := ⟨RX3, TX3, 13, tyX3, rfl, by decide, uw3, gwm 180 (by decide +kernel) (by decide +kernel), tyX3_ok, nmX3, rfl, by decide +kernel⟩
theorem ff_X3_21 : FF RX3 21 3 3 (.array .int) := ⟨RX3, TX3, 13, tyX3, rfl, by decide, uw3, gwm 183 (by decide +kernel) (by decide +kernel), tyX3_ok, nmX3, rfl, by decide +kernel⟩
theorem ff_X3_24 : FF RX3 24 3 4 (.array .int) := ⟨RX3, TX3, 13, tyX3, rfl, by decide, uw3, gwm 184 (by decide +kernel) (by decide +kernel), tyX3_ok, nmX3, rfl, by decide +kernel⟩
theorem ff_X3_27 : FF RX3 27 3 5 (.array .int) := ⟨RX3, TX3, 13, tyX3, rfl, by decide, uw3, gwm 186 (by decide +kernel) (by decide +kernel), tyX3_ok, nmX3, rfl, by decide +kernel⟩
theorem ff_X3_30 : FF RX3 30 3 6 (.array .int) := ⟨RX3, TX3, 13, tyX3, rfl, by decide, uw3, gwm 190 (by decide +kernel) (by decide +kernel), tyX3_ok, nmX3, rfl, by decide +kernel⟩
theorem ff_X3_33 : FF RX3 33 3 7 (.array .int) := ⟨RX3, TX3, 13, tyX3, rfl, by decide, uw3, gwm 195 (by decide +kernel) (by decide +kernel), tyX3_ok, nmX3, rfl, by decide +kernel⟩
theorem ff_X3_36 : FF RX3 36 3 8 (.array .boolean) := ⟨RX3, TX3, 13, tyX3, rfl, by decide, uw3, gwm 198 (by decide +kernel) (by decide +kernel), tyX3_ok, nmX3, rfl, by decide +kernel⟩
theorem ff_X3_40 : FF RX3 40 3 9 (.array .boolean) := ⟨RX3, TX3, 13, tyX3, rfl, by decide, uw3, gwm 201 (by decide +kernel) (by decide +kernel), tyX3_ok, nmX3, rfl, by decide +kernel⟩
theorem ff_X3_9 : FF RX3 9 3 0 (.array .int) := ⟨RX3, TX3, 13, tyX3, rfl, by decide, uw3, gwm 176 (by decide +kernel) (by decide +kernel), tyX3_ok, nmX3, rfl, by decide +kernel⟩
theorem ff_X4_15 : FF RX4 15 4 1 (.array .long) := ⟨RX4, TX4, 4, tyX4, rfl, by decide, uw4, gwm 381 (by decide +kernel) (by decide +kernel), tyX4_ok, nmX4, rfl, by decide +kernel⟩
theorem ff_X4_9 : FF RX4 9 4 0 (.array .long) := ⟨RX4, TX4, 4, tyX4, rfl, by decide, uw4, gwm 379 (by decide +kernel) (by decide +kernel), tyX4_ok, nmX4, rfl, by decide +kernel⟩
theorem ff_X5_15 : FF RX5 15 5 2 (.array .boolean) := ⟨RX5, TX5, 12, tyX5, rfl, by decide, uw5, gwm 302 (by decide +kernel) (by decide +kernel), tyX5_ok, nmX5, rfl, by decide +kernel⟩
theorem ff_X5_19 : FF RX5 19 5 3 (.array .int) := ⟨RX5, TX5, 12, tyX5, rfl, by decide, uw5, gwm 304 (by decide +kernel) (by decide +kernel), tyX5_ok, nmX5, rfl, by decide +kernel⟩
theorem ff_X5_22 : FF RX5 22 5 4 (.array .int) := ⟨RX5, TX5, 12, tyX5, rfl, by decide, uw5, gwm 305 (by decide +kernel) (by decide +kernel), tyX5_ok, nmX5, rfl, by decide +kernel⟩
theorem ff_X5_25 : FF RX5 25 5 5 (.array .int) := ⟨RX5, TX5, 12, tyX5, rfl, by decide, uw5, gwm 306 (by decide +kernel) (by decide +kernel), tyX5_ok, nmX5, rfl, by decide +kernel⟩
theorem ff_X5_28 : FF RX5 28 5 6 (.array .boolean) := ⟨RX5, TX5, 12, tyX5, rfl, by decide, uw5, gwm 307 (by decide +kernel) (by decide +kernel), tyX5_ok, nmX5, rfl, by decide +kernel⟩
theorem ff_X5_31 : FF RX5 31 5 7 (.array .long) := ⟨RX5, TX5, 12, tyX5, rfl, by decide, uw5, gwm 308 (by decide +kernel) (by decide +kernel), tyX5_ok, nmX5, rfl, by decide +kernel⟩
theorem ff_X5_35 : FF RX5 35 5 8 (.array .long) := ⟨RX5, TX5, 12, tyX5, rfl, by decide, uw5, gwm 309 (by decide +kernel) (by decide +kernel), tyX5_ok, nmX5, rfl, by decide +kernel⟩
theorem ff_X5_38 : FF RX5 38 5 0 (.object "CounterPlacer$Shape") := ⟨RX5, TX5, 12, tyX5, rfl, by decide, uw5, gwm 299 (by decide +kernel) (by decide +kernel), tyX5_ok, nmX5, rfl, by decide +kernel⟩
theorem ff_X5_9 : FF RX5 9 5 1 (.array .int) := ⟨RX5, TX5, 12, tyX5, rfl, by decide, uw5, gwm 300 (by decide +kernel) (by decide +kernel), tyX5_ok, nmX5, rfl, by decide +kernel⟩
theorem ff_X6_11 : FF RX6 11 6 0 (.array (.object "CounterPlacer$Routine")) := ⟨RX6, TX6, 9, tyX6, rfl, by decide, uw6, gwm 100 (by decide +kernel) (by decide +kernel), tyX6_ok, nmX6, rfl, by decide +kernel⟩
theorem ff_X6_17 : FF RX6 17 6 1 (.array .int) := ⟨RX6, TX6, 9, tyX6, rfl, by decide, uw6, gwm 101 (by decide +kernel) (by decide +kernel), tyX6_ok, nmX6, rfl, by decide +kernel⟩
theorem ff_X6_21 : FF RX6 21 6 2 (.array .long) := ⟨RX6, TX6, 9, tyX6, rfl, by decide, uw6, gwm 102 (by decide +kernel) (by decide +kernel), tyX6_ok, nmX6, rfl, by decide +kernel⟩
theorem ff_X6_25 : FF RX6 25 6 4 .int := ⟨RX6, TX6, 9, tyX6, rfl, by decide, uw6, gwm 104 (by decide +kernel) (by decide +kernel), tyX6_ok, nmX6, rfl, by decide +kernel⟩
theorem ff_X7_15 : FF RX7 15 7 2 (.array .long) := ⟨RX7, TX7, 11, tyX7, rfl, by decide, uw7, gwm 254 (by decide +kernel) (by decide +kernel), tyX7_ok, nmX7, rfl, by decide +kernel⟩
theorem ff_X7_18 : FF RX7 18 7 3 (.array .long) := ⟨RX7, TX7, 11, tyX7, rfl, by decide, uw7, gwm 257 (by decide +kernel) (by decide +kernel), tyX7_ok, nmX7, rfl, by decide +kernel⟩
theorem ff_X7_21 : FF RX7 21 7 4 (.array .long) := ⟨RX7, TX7, 11, tyX7, rfl, by decide, uw7, gwm 259 (by decide +kernel) (by decide +kernel), tyX7_ok, nmX7, rfl, by decide +kernel⟩
theorem ff_X7_24 : FF RX7 24 7 5 (.array .long) := ⟨RX7, TX7, 11, tyX7, rfl, by decide, uw7, gwm 262 (by decide +kernel) (by decide +kernel), tyX7_ok, nmX7, rfl, by decide +kernel⟩
theorem ff_X7_27 : FF RX7 27 7 6 (.array .int) := ⟨RX7, TX7, 11, tyX7, rfl, by decide, uw7, gwm 264 (by decide +kernel) (by decide +kernel), tyX7_ok, nmX7, rfl, by decide +kernel⟩
theorem ff_X7_31 : FF RX7 31 7 7 (.array .int) := ⟨RX7, TX7, 11, tyX7, rfl, by decide, uw7, gwm 265 (by decide +kernel) (by decide +kernel), tyX7_ok, nmX7, rfl, by decide +kernel⟩
theorem ff_X7_34 : FF RX7 34 7 8 (.array .int) := ⟨RX7, TX7, 11, tyX7, rfl, by decide, uw7, gwm 266 (by decide +kernel) (by decide +kernel), tyX7_ok, nmX7, rfl, by decide +kernel⟩
theorem ff_X7_37 : FF RX7 37 7 0 (.object "CounterPlacer$Shape") := ⟨RX7, TX7, 11, tyX7, rfl, by decide, uw7, gwm 251 (by decide +kernel) (by decide +kernel), tyX7_ok, nmX7, rfl, by decide +kernel⟩
theorem ff_X7_9 : FF RX7 9 7 1 (.array .long) := ⟨RX7, TX7, 11, tyX7, rfl, by decide, uw7, gwm 252 (by decide +kernel) (by decide +kernel), tyX7_ok, nmX7, rfl, by decide +kernel⟩
theorem ff_X9_102 : FF RX9 102 9 36 (.array .int) := ⟨RX9, TX9, 56, tyX9, rfl, by decide, uw9, gwm 1008 (by decide +kernel) (by decide +kernel), tyX9_ok, nmX9, rfl, by decide +kernel⟩
theorem ff_X9_105 : FF RX9 105 9 37 (.array .boolean) := ⟨RX9, TX9, 56, tyX9, rfl, by decide, uw9, gwm 1009 (by decide +kernel) (by decide +kernel), tyX9_ok, nmX9, rfl, by decide +kernel⟩
theorem ff_X9_108 : FF RX9 108 9 38 (.array .boolean) := ⟨RX9, TX9, 56, tyX9, rfl, by decide, uw9, gwm 1010 (by decide +kernel) (by decide +kernel), tyX9_ok, nmX9, rfl, by decide +kernel⟩
theorem ff_X9_111 : FF RX9 111 9 39 (.array .int) := ⟨RX9, TX9, 56, tyX9, rfl, by decide, uw9, gwm 1011 (by decide +kernel) (by decide +kernel), tyX9_ok, nmX9, rfl, by decide +kernel⟩
theorem ff_X9_114 : FF RX9 114 9 40 (.array .int) := ⟨RX9, TX9, 56, tyX9, rfl, by decide, uw9, gwm 1012 (by decide +kernel) (by decide +kernel), tyX9_ok, nmX9, rfl, by decide +kernel⟩
theorem ff_X9_117 : FF RX9 117 9 41 (.array .long) := ⟨RX9, TX9, 56, tyX9, rfl, by decide, uw9, gwm 1013 (by decide +kernel) (by decide +kernel), tyX9_ok, nmX9, rfl, by decide +kernel⟩
theorem ff_X9_120 : FF RX9 120 9 42 (.array .boolean) := ⟨RX9, TX9, 56, tyX9, rfl, by decide, uw9, gwm 1014 (by decide +kernel) (by decide +kernel), tyX9_ok, nmX9, rfl, by decide +kernel⟩
theorem ff_X9_123 : FF RX9 123 9 44 (.array .int) := ⟨RX9, TX9, 56, tyX9, rfl, by decide, uw9, gwm 1016 (by decide +kernel) (by decide +kernel), tyX9_ok, nmX9, rfl, by decide +kernel⟩
theorem ff_X9_126 : FF RX9 126 9 45 (.array .int) := ⟨RX9, TX9, 56, tyX9, rfl, by decide, uw9, gwm 1017 (by decide +kernel) (by decide +kernel), tyX9_ok, nmX9, rfl, by decide +kernel⟩
theorem ff_X9_129 : FF RX9 129 9 46 (.array .int) := ⟨RX9, TX9, 56, tyX9, rfl, by decide, uw9, gwm 1018 (by decide +kernel) (by decide +kernel), tyX9_ok, nmX9, rfl, by decide +kernel⟩
theorem ff_X9_13 : FF RX9 13 9 2 (.array .int) := ⟨RX9, TX9, 56, tyX9, rfl, by decide, uw9, gwm 974 (by decide +kernel) (by decide +kernel), tyX9_ok, nmX9, rfl, by decide +kernel⟩
theorem ff_X9_132 : FF RX9 132 9 48 (.array .int) := ⟨RX9, TX9, 56, tyX9, rfl, by decide, uw9, gwm 1020 (by decide +kernel) (by decide +kernel), tyX9_ok, nmX9, rfl, by decide +kernel⟩
theorem ff_X9_135 : FF RX9 135 9 49 (.array .int) := ⟨RX9, TX9, 56, tyX9, rfl, by decide, uw9, gwm 1021 (by decide +kernel) (by decide +kernel), tyX9_ok, nmX9, rfl, by decide +kernel⟩
theorem ff_X9_138 : FF RX9 138 9 50 (.array .long) := ⟨RX9, TX9, 56, tyX9, rfl, by decide, uw9, gwm 1022 (by decide +kernel) (by decide +kernel), tyX9_ok, nmX9, rfl, by decide +kernel⟩
theorem ff_X9_141 : FF RX9 141 9 51 (.array .int) := ⟨RX9, TX9, 56, tyX9, rfl, by decide, uw9, gwm 1023 (by decide +kernel) (by decide +kernel), tyX9_ok, nmX9, rfl, by decide +kernel⟩
theorem ff_X9_144 : FF RX9 144 9 53 (.array .long) := ⟨RX9, TX9, 56, tyX9, rfl, by decide, uw9, gwm 1025 (by decide +kernel) (by decide +kernel), tyX9_ok, nmX9, rfl, by decide +kernel⟩
theorem ff_X9_147 : FF RX9 147 9 54 (.array .int) := ⟨RX9, TX9, 56, tyX9, rfl, by decide, uw9, gwm 1026 (by decide +kernel) (by decide +kernel), tyX9_ok, nmX9, rfl, by decide +kernel⟩
theorem ff_X9_150 : FF RX9 150 9 55 (.array .int) := ⟨RX9, TX9, 56, tyX9, rfl, by decide, uw9, gwm 1027 (by decide +kernel) (by decide +kernel), tyX9_ok, nmX9, rfl, by decide +kernel⟩
theorem ff_X9_16 : FF RX9 16 9 3 (.array .boolean) := ⟨RX9, TX9, 56, tyX9, rfl, by decide, uw9, gwm 975 (by decide +kernel) (by decide +kernel), tyX9_ok, nmX9, rfl, by decide +kernel⟩
theorem ff_X9_20 : FF RX9 20 9 4 (.array .int) := ⟨RX9, TX9, 56, tyX9, rfl, by decide, uw9, gwm 976 (by decide +kernel) (by decide +kernel), tyX9_ok, nmX9, rfl, by decide +kernel⟩
theorem ff_X9_23 : FF RX9 23 9 5 (.array .int) := ⟨RX9, TX9, 56, tyX9, rfl, by decide, uw9, gwm 977 (by decide +kernel) (by decide +kernel), tyX9_ok, nmX9, rfl, by decide +kernel⟩
theorem ff_X9_26 : FF RX9 26 9 6 (.array .int) := ⟨RX9, TX9, 56, tyX9, rfl, by decide, uw9, gwm 978 (by decide +kernel) (by decide +kernel), tyX9_ok, nmX9, rfl, by decide +kernel⟩
theorem ff_X9_29 : FF RX9 29 9 7 (.array .int) := ⟨RX9, TX9, 56, tyX9, rfl, by decide, uw9, gwm 979 (by decide +kernel) (by decide +kernel), tyX9_ok, nmX9, rfl, by decide +kernel⟩
theorem ff_X9_32 : FF RX9 32 9 8 (.array .int) := ⟨RX9, TX9, 56, tyX9, rfl, by decide, uw9, gwm 980 (by decide +kernel) (by decide +kernel), tyX9_ok, nmX9, rfl, by decide +kernel⟩
theorem ff_X9_35 : FF RX9 35 9 9 (.array .boolean) := ⟨RX9, TX9, 56, tyX9, rfl, by decide, uw9, gwm 981 (by decide +kernel) (by decide +kernel), tyX9_ok, nmX9, rfl, by decide +kernel⟩
theorem ff_X9_38 : FF RX9 38 9 10 (.array .int) := ⟨RX9, TX9, 56, tyX9, rfl, by decide, uw9, gwm 982 (by decide +kernel) (by decide +kernel), tyX9_ok, nmX9, rfl, by decide +kernel⟩
theorem ff_X9_41 : FF RX9 41 9 11 (.array .boolean) := ⟨RX9, TX9, 56, tyX9, rfl, by decide, uw9, gwm 983 (by decide +kernel) (by decide +kernel), tyX9_ok, nmX9, rfl, by decide +kernel⟩
theorem ff_X9_44 : FF RX9 44 9 12 (.array .long) := ⟨RX9, TX9, 56, tyX9, rfl, by decide, uw9, gwm 984 (by decide +kernel) (by decide +kernel), tyX9_ok, nmX9, rfl, by decide +kernel⟩
theorem ff_X9_48 : FF RX9 48 9 13 (.array .int) := ⟨RX9, TX9, 56, tyX9, rfl, by decide, uw9, gwm 985 (by decide +kernel) (by decide +kernel), tyX9_ok, nmX9, rfl, by decide +kernel⟩
theorem ff_X9_51 : FF RX9 51 9 14 (.array .long) := ⟨RX9, TX9, 56, tyX9, rfl, by decide, uw9, gwm 986 (by decide +kernel) (by decide +kernel), tyX9_ok, nmX9, rfl, by decide +kernel⟩
theorem ff_X9_54 : FF RX9 54 9 15 (.array .long) := ⟨RX9, TX9, 56, tyX9, rfl, by decide, uw9, gwm 987 (by decide +kernel) (by decide +kernel), tyX9_ok, nmX9, rfl, by decide +kernel⟩
theorem ff_X9_57 : FF RX9 57 9 16 (.array .long) := ⟨RX9, TX9, 56, tyX9, rfl, by decide, uw9, gwm 988 (by decide +kernel) (by decide +kernel), tyX9_ok, nmX9, rfl, by decide +kernel⟩
theorem ff_X9_60 : FF RX9 60 9 17 (.array .long) := ⟨RX9, TX9, 56, tyX9, rfl, by decide, uw9, gwm 989 (by decide +kernel) (by decide +kernel), tyX9_ok, nmX9, rfl, by decide +kernel⟩
theorem ff_X9_63 : FF RX9 63 9 18 (.array .long) := ⟨RX9, TX9, 56, tyX9, rfl, by decide, uw9, gwm 990 (by decide +kernel) (by decide +kernel), tyX9_ok, nmX9, rfl, by decide +kernel⟩
theorem ff_X9_66 : FF RX9 66 9 19 (.array .long) := ⟨RX9, TX9, 56, tyX9, rfl, by decide, uw9, gwm 991 (by decide +kernel) (by decide +kernel), tyX9_ok, nmX9, rfl, by decide +kernel⟩
theorem ff_X9_69 : FF RX9 69 9 20 (.array .long) := ⟨RX9, TX9, 56, tyX9, rfl, by decide, uw9, gwm 992 (by decide +kernel) (by decide +kernel), tyX9_ok, nmX9, rfl, by decide +kernel⟩
theorem ff_X9_7 : FF RX9 7 9 1 (.array .int) := ⟨RX9, TX9, 56, tyX9, rfl, by decide, uw9, gwm 973 (by decide +kernel) (by decide +kernel), tyX9_ok, nmX9, rfl, by decide +kernel⟩
theorem ff_X9_72 : FF RX9 72 9 21 (.array .long) := ⟨RX9, TX9, 56, tyX9, rfl, by decide, uw9, gwm 993 (by decide +kernel) (by decide +kernel), tyX9_ok, nmX9, rfl, by decide +kernel⟩
theorem ff_X9_75 : FF RX9 75 9 22 (.array .long) := ⟨RX9, TX9, 56, tyX9, rfl, by decide, uw9, gwm 994 (by decide +kernel) (by decide +kernel), tyX9_ok, nmX9, rfl, by decide +kernel⟩
theorem ff_X9_78 : FF RX9 78 9 23 (.array .long) := ⟨RX9, TX9, 56, tyX9, rfl, by decide, uw9, gwm 995 (by decide +kernel) (by decide +kernel), tyX9_ok, nmX9, rfl, by decide +kernel⟩
theorem ff_X9_81 : FF RX9 81 9 24 (.array .int) := ⟨RX9, TX9, 56, tyX9, rfl, by decide, uw9, gwm 996 (by decide +kernel) (by decide +kernel), tyX9_ok, nmX9, rfl, by decide +kernel⟩
theorem ff_X9_84 : FF RX9 84 9 25 (.array .long) := ⟨RX9, TX9, 56, tyX9, rfl, by decide, uw9, gwm 997 (by decide +kernel) (by decide +kernel), tyX9_ok, nmX9, rfl, by decide +kernel⟩
theorem ff_X9_87 : FF RX9 87 9 26 (.array .long) := ⟨RX9, TX9, 56, tyX9, rfl, by decide, uw9, gwm 998 (by decide +kernel) (by decide +kernel), tyX9_ok, nmX9, rfl, by decide +kernel⟩
theorem ff_X9_90 : FF RX9 90 9 31 (.array .int) := ⟨RX9, TX9, 56, tyX9, rfl, by decide, uw9, gwm 1003 (by decide +kernel) (by decide +kernel), tyX9_ok, nmX9, rfl, by decide +kernel⟩
theorem ff_X9_93 : FF RX9 93 9 32 (.array .int) := ⟨RX9, TX9, 56, tyX9, rfl, by decide, uw9, gwm 1004 (by decide +kernel) (by decide +kernel), tyX9_ok, nmX9, rfl, by decide +kernel⟩
theorem ff_X9_96 : FF RX9 96 9 33 (.array .long) := ⟨RX9, TX9, 56, tyX9, rfl, by decide, uw9, gwm 1005 (by decide +kernel) (by decide +kernel), tyX9_ok, nmX9, rfl, by decide +kernel⟩
theorem ff_X9_99 : FF RX9 99 9 35 (.array .boolean) := ⟨RX9, TX9, 56, tyX9, rfl, by decide, uw9, gwm 1007 (by decide +kernel) (by decide +kernel), tyX9_ok, nmX9, rfl, by decide +kernel⟩
theorem oi_X0 : ∀ w ∈ ([Cond.methodLink RX0 3 Lib.objectInit, Cond.instanceMethod Lib.objectInit, Cond.code Lib.objectInit ⟨#[0xb1]⟩ 1 none] : List Cond), w ∈ GW := gall (by decide +kernel) (by decide +kernel)
theorem oi_X1 : ∀ w ∈ ([Cond.methodLink RX1 3 Lib.objectInit, Cond.instanceMethod Lib.objectInit, Cond.code Lib.objectInit ⟨#[0xb1]⟩ 1 none] : List Cond), w ∈ GW := gall (by decide +kernel) (by decide +kernel)
theorem oi_X3 : ∀ w ∈ ([Cond.methodLink RX3 3 Lib.objectInit, Cond.instanceMethod Lib.objectInit, Cond.code Lib.objectInit ⟨#[0xb1]⟩ 1 none] : List Cond), w ∈ GW := gall (by decide +kernel) (by decide +kernel)
theorem oi_X4 : ∀ w ∈ ([Cond.methodLink RX4 3 Lib.objectInit, Cond.instanceMethod Lib.objectInit, Cond.code Lib.objectInit ⟨#[0xb1]⟩ 1 none] : List Cond), w ∈ GW := gall (by decide +kernel) (by decide +kernel)
theorem oi_X5 : ∀ w ∈ ([Cond.methodLink RX5 3 Lib.objectInit, Cond.instanceMethod Lib.objectInit, Cond.code Lib.objectInit ⟨#[0xb1]⟩ 1 none] : List Cond), w ∈ GW := gall (by decide +kernel) (by decide +kernel)
theorem oi_X6 : ∀ w ∈ ([Cond.methodLink RX6 3 Lib.objectInit, Cond.instanceMethod Lib.objectInit, Cond.code Lib.objectInit ⟨#[0xb1]⟩ 1 none] : List Cond), w ∈ GW := gall (by decide +kernel) (by decide +kernel)
theorem oi_X7 : ∀ w ∈ ([Cond.methodLink RX7 3 Lib.objectInit, Cond.instanceMethod Lib.objectInit, Cond.code Lib.objectInit ⟨#[0xb1]⟩ 1 none] : List Cond), w ∈ GW := gall (by decide +kernel) (by decide +kernel)
theorem oi_X9 : ∀ w ∈ ([Cond.methodLink RX9 1 Lib.objectInit, Cond.instanceMethod Lib.objectInit, Cond.code Lib.objectInit ⟨#[0xb1]⟩ 1 none] : List Cond), w ∈ GW := gall (by decide +kernel) (by decide +kernel)
theorem dX0_init_0 : decode cX0_init 0 = .ok (.aload_n 0, 1) := by decide +kernel
theorem dX0_init_1 : decode cX0_init 1 = .ok (.invokespecial 3, 3) := by decide +kernel
theorem dX0_init_4 : decode cX0_init 4 = .ok (.aload_n 0, 1) := by decide +kernel
theorem dX0_init_5 : decode cX0_init 5 = .ok (.bipush 40, 2) := by decide +kernel
theorem dX0_init_7 : decode cX0_init 7 = .ok (.newarray .long, 2) := by decide +kernel
theorem dX0_init_9 : decode cX0_init 9 = .ok (.putfield 9, 3) := by decide +kernel
theorem dX0_init_12 : decode cX0_init 12 = .ok (.aload_n 0, 1) := by decide +kernel
theorem dX0_init_13 : decode cX0_init 13 = .ok (.bipush 40, 2) := by decide +kernel
theorem dX0_init_15 : decode cX0_init 15 = .ok (.newarray .long, 2) := by decide +kernel
theorem dX0_init_17 : decode cX0_init 17 = .ok (.putfield 15, 3) := by decide +kernel
theorem dX0_init_20 : decode cX0_init 20 = .ok (.aload_n 0, 1) := by decide +kernel
theorem dX0_init_21 : decode cX0_init 21 = .ok (.bipush 20, 2) := by decide +kernel
theorem dX0_init_23 : decode cX0_init 23 = .ok (.newarray .long, 2) := by decide +kernel
theorem dX0_init_25 : decode cX0_init 25 = .ok (.putfield 18, 3) := by decide +kernel
theorem dX0_init_28 : decode cX0_init 28 = .ok (.return_, 1) := by decide +kernel
def Fn0 (u : List Nat) : List Value := [.ref (u.getD 0 0), .ref (u.getD 1 0), .ref (u.getD 2 0), .long 0, .long 0]
def Cn0 (K4 : kQ) (u : List Nat) : va_W := [((u.getD 0 0), zc K4 1 40), ((u.getD 1 0), zc K4 1 40), ((u.getD 2 0), zc K4 1 20)]
set_option maxRecDepth 100000 in
set_option maxHeartbeats 4000000 in
theorem k_X0_init (l : Launch) : KI l yX0_init cX0_init 1 1 3 100 12 [] 0 [.null, .null, .null, .long 0, .long 0] 3 (Fn0) Cn0 := by
  refine KI.ofG (by decide) rfl (fun _ => Nat.le_of_ble_eq_true rfl) ?_
  intro p e s m args below meth c D K4 h0 hC hin hret hao
  refine G_aload_n hC 0 dX0_init_0 rfl ?_
  refine G_obj hC oi_X0 ⟨Nat.le_of_ble_eq_true rfl, Nat.le_of_ble_eq_true rfl⟩ dX0_init_1 ?_
  refine G_aload_n hC 0 dX0_init_4 rfl ?_
  refine G_bipush (v := 40) hC dX0_init_5 (by decide) ?_
  refine G_newJ (N' := 40) hC ac_J (by decide) (by decide) (by decide) ⟨Nat.le_of_ble_eq_true rfl, Nat.le_of_ble_eq_true rfl⟩ dX0_init_7 (fun q1 => ?_)
  refine G_eq (ws' := [(h0, .inr (0, [.null, .null, .null, .long 0, .long 0])), (q1, zc K4 1 40)]) rfl ?_
  refine G_putF hC ff_X0_9 (fun C T N h => by cases h; rfl) hin rfl rfl (Nat.le_of_ble_eq_true rfl) dX0_init_9 ?_
  refine G_eq (ws' := [(h0, .inr (0, [.ref q1, .null, .null, .long 0, .long 0])), (q1, zc K4 1 40)]) rfl ?_
  refine G_aload_n hC 0 dX0_init_12 rfl ?_
  refine G_bipush (v := 40) hC dX0_init_13 (by decide) ?_
  refine G_newJ (N' := 40) hC ac_J (by decide) (by decide) (by decide) ⟨Nat.le_of_ble_eq_true rfl, Nat.le_of_ble_eq_true rfl⟩ dX0_init_15 (fun q2 => ?_)
  refine G_eq (ws' := [(h0, .inr (0, [.ref q1, .null, .null, .long 0, .long 0])), (q1, zc K4 1 40), (q2, zc K4 1 40)]) rfl ?_
  refine G_putF hC ff_X0_15 (fun C T N h => by cases h; rfl) hin rfl rfl (Nat.le_of_ble_eq_true rfl) dX0_init_17 ?_
  refine G_eq (ws' := [(h0, .inr (0, [.ref q1, .ref q2, .null, .long 0, .long 0])), (q1, zc K4 1 40), (q2, zc K4 1 40)]) rfl ?_
  refine G_aload_n hC 0 dX0_init_20 rfl ?_
  refine G_bipush (v := 20) hC dX0_init_21 (by decide) ?_
  refine G_newJ (N' := 20) hC ac_J (by decide) (by decide) (by decide) ⟨Nat.le_of_ble_eq_true rfl, Nat.le_of_ble_eq_true rfl⟩ dX0_init_23 (fun q3 => ?_)
  refine G_eq (ws' := [(h0, .inr (0, [.ref q1, .ref q2, .null, .long 0, .long 0])), (q1, zc K4 1 40), (q2, zc K4 1 40), (q3, zc K4 1 20)]) rfl ?_
  refine G_putF hC ff_X0_18 (fun C T N h => by cases h; rfl) hin rfl rfl (Nat.le_of_ble_eq_true rfl) dX0_init_25 ?_
  refine G_eq (ws' := [(h0, .inr (0, [.ref q1, .ref q2, .ref q3, .long 0, .long 0])), (q1, zc K4 1 40), (q2, zc K4 1 40), (q3, zc K4 1 20)]) rfl ?_
  exact G_vret (cs := 3) (sl := 100) hC [q1, q2, q3] hret dX0_init_28 rfl (fun t a b => ⟨a, b⟩)
theorem dX4_init_0 : decode cX4_init 0 = .ok (.aload_n 0, 1) := by decide +kernel
theorem dX4_init_1 : decode cX4_init 1 = .ok (.invokespecial 3, 3) := by decide +kernel
theorem dX4_init_4 : decode cX4_init 4 = .ok (.aload_n 0, 1) := by decide +kernel
theorem dX4_init_5 : decode cX4_init 5 = .ok (.bipush 16, 2) := by decide +kernel
theorem dX4_init_7 : decode cX4_init 7 = .ok (.newarray .long, 2) := by decide +kernel
theorem dX4_init_9 : decode cX4_init 9 = .ok (.putfield 9, 3) := by decide +kernel
theorem dX4_init_12 : decode cX4_init 12 = .ok (.aload_n 0, 1) := by decide +kernel
theorem dX4_init_13 : decode cX4_init 13 = .ok (.bipush 16, 2) := by decide +kernel
theorem dX4_init_15 : decode cX4_init 15 = .ok (.newarray .long, 2) := by decide +kernel
theorem dX4_init_17 : decode cX4_init 17 = .ok (.putfield 15, 3) := by decide +kernel
theorem dX4_init_20 : decode cX4_init 20 = .ok (.return_, 1) := by decide +kernel
def Fn4 (u : List Nat) : List Value := [.ref (u.getD 0 0), .ref (u.getD 1 0), .int 0, .long 0]
def Cn4 (K4 : kQ) (u : List Nat) : va_W := [((u.getD 0 0), zc K4 1 16), ((u.getD 1 0), zc K4 1 16)]
set_option maxRecDepth 100000 in
set_option maxHeartbeats 4000000 in
theorem k_X4_init (l : Launch) : KI l yX4_init cX4_init 1 1 2 32 12 [] 4 [.null, .null, .int 0, .long 0] 2 (Fn4) Cn4 := by
  refine KI.ofG (by decide) rfl (fun _ => Nat.le_of_ble_eq_true rfl) ?_
  intro p e s m args below meth c D K4 h0 hC hin hret hao
  refine G_aload_n hC 0 dX4_init_0 rfl ?_
  refine G_obj hC oi_X4 ⟨Nat.le_of_ble_eq_true rfl, Nat.le_of_ble_eq_true rfl⟩ dX4_init_1 ?_
  refine G_aload_n hC 0 dX4_init_4 rfl ?_
  refine G_bipush (v := 16) hC dX4_init_5 (by decide) ?_
  refine G_newJ (N' := 16) hC ac_J (by decide) (by decide) (by decide) ⟨Nat.le_of_ble_eq_true rfl, Nat.le_of_ble_eq_true rfl⟩ dX4_init_7 (fun q1 => ?_)
  refine G_eq (ws' := [(h0, .inr (4, [.null, .null, .int 0, .long 0])), (q1, zc K4 1 16)]) rfl ?_
  refine G_putF hC ff_X4_9 (fun C T N h => by cases h; rfl) hin rfl rfl (Nat.le_of_ble_eq_true rfl) dX4_init_9 ?_
  refine G_eq (ws' := [(h0, .inr (4, [.ref q1, .null, .int 0, .long 0])), (q1, zc K4 1 16)]) rfl ?_
  refine G_aload_n hC 0 dX4_init_12 rfl ?_
  refine G_bipush (v := 16) hC dX4_init_13 (by decide) ?_
  refine G_newJ (N' := 16) hC ac_J (by decide) (by decide) (by decide) ⟨Nat.le_of_ble_eq_true rfl, Nat.le_of_ble_eq_true rfl⟩ dX4_init_15 (fun q2 => ?_)
  refine G_eq (ws' := [(h0, .inr (4, [.ref q1, .null, .int 0, .long 0])), (q1, zc K4 1 16), (q2, zc K4 1 16)]) rfl ?_
  refine G_putF hC ff_X4_15 (fun C T N h => by cases h; rfl) hin rfl rfl (Nat.le_of_ble_eq_true rfl) dX4_init_17 ?_
  refine G_eq (ws' := [(h0, .inr (4, [.ref q1, .ref q2, .int 0, .long 0])), (q1, zc K4 1 16), (q2, zc K4 1 16)]) rfl ?_
  exact G_vret (cs := 2) (sl := 32) hC [q1, q2] hret dX4_init_20 rfl (fun t a b => ⟨a, b⟩)
theorem dX1_init_0 : decode cX1_init 0 = .ok (.aload_n 0, 1) := by decide +kernel
theorem dX1_init_1 : decode cX1_init 1 = .ok (.invokespecial 3, 3) := by decide +kernel
theorem dX1_init_4 : decode cX1_init 4 = .ok (.aload_n 0, 1) := by decide +kernel
theorem dX1_init_5 : decode cX1_init 5 = .ok (.bipush 61, 2) := by decide +kernel
theorem dX1_init_7 : decode cX1_init 7 = .ok (.newarray .int, 2) := by decide +kernel
theorem dX1_init_9 : decode cX1_init 9 = .ok (.putfield 9, 3) := by decide +kernel
theorem dX1_init_12 : decode cX1_init 12 = .ok (.aload_n 0, 1) := by decide +kernel
theorem dX1_init_13 : decode cX1_init 13 = .ok (.bipush 21, 2) := by decide +kernel
theorem dX1_init_15 : decode cX1_init 15 = .ok (.newarray .int, 2) := by decide +kernel
theorem dX1_init_17 : decode cX1_init 17 = .ok (.putfield 15, 3) := by decide +kernel
theorem dX1_init_20 : decode cX1_init 20 = .ok (.aload_n 0, 1) := by decide +kernel
theorem dX1_init_21 : decode cX1_init 21 = .ok (.bipush 21, 2) := by decide +kernel
theorem dX1_init_23 : decode cX1_init 23 = .ok (.newarray .int, 2) := by decide +kernel
theorem dX1_init_25 : decode cX1_init 25 = .ok (.putfield 18, 3) := by decide +kernel
theorem dX1_init_28 : decode cX1_init 28 = .ok (.aload_n 0, 1) := by decide +kernel
theorem dX1_init_29 : decode cX1_init 29 = .ok (.bipush 21, 2) := by decide +kernel
theorem dX1_init_31 : decode cX1_init 31 = .ok (.newarray .int, 2) := by decide +kernel
theorem dX1_init_33 : decode cX1_init 33 = .ok (.putfield 21, 3) := by decide +kernel
theorem dX1_init_36 : decode cX1_init 36 = .ok (.return_, 1) := by decide +kernel
def Fn1 (u : List Nat) : List Value := [.ref (u.getD 0 0), .ref (u.getD 1 0), .ref (u.getD 2 0), .ref (u.getD 3 0)]
def Cn1 (K4 : kQ) (u : List Nat) : va_W := [((u.getD 0 0), zc K4 0 61), ((u.getD 1 0), zc K4 0 21), ((u.getD 2 0), zc K4 0 21), ((u.getD 3 0), zc K4 0 21)]
set_option maxRecDepth 100000 in
set_option maxHeartbeats 4000000 in
theorem k_X1_init (l : Launch) : KI l yX1_init cX1_init 1 1 4 124 12 [] 1 [.null, .null, .null, .null] 4 (Fn1) Cn1 := by
  refine KI.ofG (by decide) rfl (fun _ => Nat.le_of_ble_eq_true rfl) ?_
  intro p e s m args below meth c D K4 h0 hC hin hret hao
  refine G_aload_n hC 0 dX1_init_0 rfl ?_
  refine G_obj hC oi_X1 ⟨Nat.le_of_ble_eq_true rfl, Nat.le_of_ble_eq_true rfl⟩ dX1_init_1 ?_
  refine G_aload_n hC 0 dX1_init_4 rfl ?_
  refine G_bipush (v := 61) hC dX1_init_5 (by decide) ?_
  refine G_newI (N' := 61) hC ac_I (by decide) (by decide) (by decide) ⟨Nat.le_of_ble_eq_true rfl, Nat.le_of_ble_eq_true rfl⟩ dX1_init_7 (fun q1 => ?_)
  refine G_eq (ws' := [(h0, .inr (1, [.null, .null, .null, .null])), (q1, zc K4 0 61)]) rfl ?_
  refine G_putF hC ff_X1_9 (fun C T N h => by cases h; rfl) hin rfl rfl (Nat.le_of_ble_eq_true rfl) dX1_init_9 ?_
  refine G_eq (ws' := [(h0, .inr (1, [.ref q1, .null, .null, .null])), (q1, zc K4 0 61)]) rfl ?_
  refine G_aload_n hC 0 dX1_init_12 rfl ?_
  refine G_bipush (v := 21) hC dX1_init_13 (by decide) ?_
  refine G_newI (N' := 21) hC ac_I (by decide) (by decide) (by decide) ⟨Nat.le_of_ble_eq_true rfl, Nat.le_of_ble_eq_true rfl⟩ dX1_init_15 (fun q2 => ?_)
  refine G_eq (ws' := [(h0, .inr (1, [.ref q1, .null, .null, .null])), (q1, zc K4 0 61), (q2, zc K4 0 21)]) rfl ?_
  refine G_putF hC ff_X1_15 (fun C T N h => by cases h; rfl) hin rfl rfl (Nat.le_of_ble_eq_true rfl) dX1_init_17 ?_
  refine G_eq (ws' := [(h0, .inr (1, [.ref q1, .ref q2, .null, .null])), (q1, zc K4 0 61), (q2, zc K4 0 21)]) rfl ?_
  refine G_aload_n hC 0 dX1_init_20 rfl ?_
  refine G_bipush (v := 21) hC dX1_init_21 (by decide) ?_
  refine G_newI (N' := 21) hC ac_I (by decide) (by decide) (by decide) ⟨Nat.le_of_ble_eq_true rfl, Nat.le_of_ble_eq_true rfl⟩ dX1_init_23 (fun q3 => ?_)
  refine G_eq (ws' := [(h0, .inr (1, [.ref q1, .ref q2, .null, .null])), (q1, zc K4 0 61), (q2, zc K4 0 21), (q3, zc K4 0 21)]) rfl ?_
  refine G_putF hC ff_X1_18 (fun C T N h => by cases h; rfl) hin rfl rfl (Nat.le_of_ble_eq_true rfl) dX1_init_25 ?_
  refine G_eq (ws' := [(h0, .inr (1, [.ref q1, .ref q2, .ref q3, .null])), (q1, zc K4 0 61), (q2, zc K4 0 21), (q3, zc K4 0 21)]) rfl ?_
  refine G_aload_n hC 0 dX1_init_28 rfl ?_
  refine G_bipush (v := 21) hC dX1_init_29 (by decide) ?_
  refine G_newI (N' := 21) hC ac_I (by decide) (by decide) (by decide) ⟨Nat.le_of_ble_eq_true rfl, Nat.le_of_ble_eq_true rfl⟩ dX1_init_31 (fun q4 => ?_)
  refine G_eq (ws' := [(h0, .inr (1, [.ref q1, .ref q2, .ref q3, .null])), (q1, zc K4 0 61), (q2, zc K4 0 21), (q3, zc K4 0 21), (q4, zc K4 0 21)]) rfl ?_
  refine G_putF hC ff_X1_21 (fun C T N h => by cases h; rfl) hin rfl rfl (Nat.le_of_ble_eq_true rfl) dX1_init_33 ?_
  refine G_eq (ws' := [(h0, .inr (1, [.ref q1, .ref q2, .ref q3, .ref q4])), (q1, zc K4 0 61), (q2, zc K4 0 21), (q3, zc K4 0 21), (q4, zc K4 0 21)]) rfl ?_
  exact G_vret (cs := 4) (sl := 124) hC [q1, q2, q3, q4] hret dX1_init_36 rfl (fun t a b => ⟨a, b⟩)
theorem dX6_init_0 : decode cX6_init 0 = .ok (.aload_n 0, 1) := by decide +kernel
theorem dX6_init_1 : decode cX6_init 1 = .ok (.invokespecial 3, 3) := by decide +kernel
theorem dX6_init_4 : decode cX6_init 4 = .ok (.aload_n 0, 1) := by decide +kernel
theorem dX6_init_5 : decode cX6_init 5 = .ok (.bipush 30, 2) := by decide +kernel
theorem dX6_init_7 : decode cX6_init 7 = .ok (.anewarray 9, 3) := by decide +kernel
theorem dX6_init_10 : decode cX6_init 10 = .ok (.putfield 11, 3) := by decide +kernel
theorem dX6_init_13 : decode cX6_init 13 = .ok (.aload_n 0, 1) := by decide +kernel
theorem dX6_init_14 : decode cX6_init 14 = .ok (.bipush 30, 2) := by decide +kernel
theorem dX6_init_16 : decode cX6_init 16 = .ok (.newarray .int, 2) := by decide +kernel
theorem dX6_init_18 : decode cX6_init 18 = .ok (.putfield 17, 3) := by decide +kernel
theorem dX6_init_21 : decode cX6_init 21 = .ok (.aload_n 0, 1) := by decide +kernel
theorem dX6_init_22 : decode cX6_init 22 = .ok (.bipush 30, 2) := by decide +kernel
theorem dX6_init_24 : decode cX6_init 24 = .ok (.newarray .long, 2) := by decide +kernel
theorem dX6_init_26 : decode cX6_init 26 = .ok (.putfield 21, 3) := by decide +kernel
theorem dX6_init_29 : decode cX6_init 29 = .ok (.aload_n 0, 1) := by decide +kernel
theorem dX6_init_30 : decode cX6_init 30 = .ok (.iconst 0, 1) := by decide +kernel
theorem dX6_init_31 : decode cX6_init 31 = .ok (.putfield 25, 3) := by decide +kernel
theorem dX6_init_34 : decode cX6_init 34 = .ok (.return_, 1) := by decide +kernel
def Fn6 (u : List Nat) : List Value := [.ref (u.getD 0 0), .ref (u.getD 1 0), .ref (u.getD 2 0), .int 0, .int 0, .int 0, .int 0, .int 0, .int 0]
def Cn6 (K4 : kQ) (u : List Nat) : va_W := [((u.getD 0 0), zc K4 3 30), ((u.getD 1 0), zc K4 0 30), ((u.getD 2 0), zc K4 1 30)]
set_option maxRecDepth 100000 in
set_option maxHeartbeats 4000000 in
theorem k_X6_init (l : Launch) : KI l yX6_init cX6_init 1 1 3 90 12 [] 6 [.null, .null, .null, .int 0, .int 0, .int 0, .int 0, .int 0, .int 0] 3 (Fn6) Cn6 := by
  refine KI.ofG (by decide) rfl (fun _ => Nat.le_of_ble_eq_true rfl) ?_
  intro p e s m args below meth c D K4 h0 hC hin hret hao
  refine G_aload_n hC 0 dX6_init_0 rfl ?_
  refine G_obj hC oi_X6 ⟨Nat.le_of_ble_eq_true rfl, Nat.le_of_ble_eq_true rfl⟩ dX6_init_1 ?_
  refine G_aload_n hC 0 dX6_init_4 rfl ?_
  refine G_bipush (v := 30) hC dX6_init_5 (by decide) ?_
  refine G_newQ (N' := 30) hC ck_X6_9 hao (by decide) (by decide) (by decide) ⟨Nat.le_of_ble_eq_true rfl, Nat.le_of_ble_eq_true rfl⟩ dX6_init_7 (fun q1 => ?_)
  refine G_eq (ws' := [(h0, .inr (6, [.null, .null, .null, .int 0, .int 0, .int 0, .int 0, .int 0, .int 0])), (q1, zc K4 3 30)]) rfl ?_
  refine G_putF hC ff_X6_11 (fun C T N h => by cases h; rfl) hin rfl rfl (Nat.le_of_ble_eq_true rfl) dX6_init_10 ?_
  refine G_eq (ws' := [(h0, .inr (6, [.ref q1, .null, .null, .int 0, .int 0, .int 0, .int 0, .int 0, .int 0])), (q1, zc K4 3 30)]) rfl ?_
  refine G_aload_n hC 0 dX6_init_13 rfl ?_
  refine G_bipush (v := 30) hC dX6_init_14 (by decide) ?_
  refine G_newI (N' := 30) hC ac_I (by decide) (by decide) (by decide) ⟨Nat.le_of_ble_eq_true rfl, Nat.le_of_ble_eq_true rfl⟩ dX6_init_16 (fun q2 => ?_)
  refine G_eq (ws' := [(h0, .inr (6, [.ref q1, .null, .null, .int 0, .int 0, .int 0, .int 0, .int 0, .int 0])), (q1, zc K4 3 30), (q2, zc K4 0 30)]) rfl ?_
  refine G_putF hC ff_X6_17 (fun C T N h => by cases h; rfl) hin rfl rfl (Nat.le_of_ble_eq_true rfl) dX6_init_18 ?_
  refine G_eq (ws' := [(h0, .inr (6, [.ref q1, .ref q2, .null, .int 0, .int 0, .int 0, .int 0, .int 0, .int 0])), (q1, zc K4 3 30), (q2, zc K4 0 30)]) rfl ?_
  refine G_aload_n hC 0 dX6_init_21 rfl ?_
  refine G_bipush (v := 30) hC dX6_init_22 (by decide) ?_
  refine G_newJ (N' := 30) hC ac_J (by decide) (by decide) (by decide) ⟨Nat.le_of_ble_eq_true rfl, Nat.le_of_ble_eq_true rfl⟩ dX6_init_24 (fun q3 => ?_)
  refine G_eq (ws' := [(h0, .inr (6, [.ref q1, .ref q2, .null, .int 0, .int 0, .int 0, .int 0, .int 0, .int 0])), (q1, zc K4 3 30), (q2, zc K4 0 30), (q3, zc K4 1 30)]) rfl ?_
  refine G_putF hC ff_X6_21 (fun C T N h => by cases h; rfl) hin rfl rfl (Nat.le_of_ble_eq_true rfl) dX6_init_26 ?_
  refine G_eq (ws' := [(h0, .inr (6, [.ref q1, .ref q2, .ref q3, .int 0, .int 0, .int 0, .int 0, .int 0, .int 0])), (q1, zc K4 3 30), (q2, zc K4 0 30), (q3, zc K4 1 30)]) rfl ?_
  refine G_aload_n hC 0 dX6_init_29 rfl ?_
  refine G_iconst (v := 0) hC dX6_init_30 (by decide) ?_
  refine G_putN hC ff_X6_25 (fun C T N h => by cases h; rfl) rfl rfl (Nat.le_of_ble_eq_true rfl) dX6_init_31 ?_
  refine G_eq (ws' := [(h0, .inr (6, [.ref q1, .ref q2, .ref q3, .int 0, .int 0, .int 0, .int 0, .int 0, .int 0])), (q1, zc K4 3 30), (q2, zc K4 0 30), (q3, zc K4 1 30)]) rfl ?_
  exact G_vret (cs := 3) (sl := 90) hC [q1, q2, q3] hret dX6_init_34 rfl (fun t a b => ⟨a, b⟩)
theorem dX3_init_0 : decode cX3_init 0 = .ok (.aload_n 0, 1) := by decide +kernel
theorem dX3_init_1 : decode cX3_init 1 = .ok (.invokespecial 3, 3) := by decide +kernel
theorem dX3_init_4 : decode cX3_init 4 = .ok (.aload_n 0, 1) := by decide +kernel
theorem dX3_init_5 : decode cX3_init 5 = .ok (.bipush 20, 2) := by decide +kernel
theorem dX3_init_7 : decode cX3_init 7 = .ok (.newarray .int, 2) := by decide +kernel
theorem dX3_init_9 : decode cX3_init 9 = .ok (.putfield 9, 3) := by decide +kernel
theorem dX3_init_12 : decode cX3_init 12 = .ok (.aload_n 0, 1) := by decide +kernel
theorem dX3_init_13 : decode cX3_init 13 = .ok (.bipush 20, 2) := by decide +kernel
theorem dX3_init_15 : decode cX3_init 15 = .ok (.newarray .int, 2) := by decide +kernel
theorem dX3_init_17 : decode cX3_init 17 = .ok (.putfield 15, 3) := by decide +kernel
theorem dX3_init_20 : decode cX3_init 20 = .ok (.aload_n 0, 1) := by decide +kernel
theorem dX3_init_21 : decode cX3_init 21 = .ok (.bipush 20, 2) := by decide +kernel
theorem dX3_init_23 : decode cX3_init 23 = .ok (.newarray .int, 2) := by decide +kernel
theorem dX3_init_25 : decode cX3_init 25 = .ok (.putfield 18, 3) := by decide +kernel
theorem dX3_init_28 : decode cX3_init 28 = .ok (.aload_n 0, 1) := by decide +kernel
theorem dX3_init_29 : decode cX3_init 29 = .ok (.bipush 20, 2) := by decide +kernel
theorem dX3_init_31 : decode cX3_init 31 = .ok (.newarray .int, 2) := by decide +kernel
theorem dX3_init_33 : decode cX3_init 33 = .ok (.putfield 21, 3) := by decide +kernel
theorem dX3_init_36 : decode cX3_init 36 = .ok (.aload_n 0, 1) := by decide +kernel
theorem dX3_init_37 : decode cX3_init 37 = .ok (.bipush 80, 2) := by decide +kernel
theorem dX3_init_39 : decode cX3_init 39 = .ok (.newarray .int, 2) := by decide +kernel
theorem dX3_init_41 : decode cX3_init 41 = .ok (.putfield 24, 3) := by decide +kernel
theorem dX3_init_44 : decode cX3_init 44 = .ok (.aload_n 0, 1) := by decide +kernel
theorem dX3_init_45 : decode cX3_init 45 = .ok (.bipush 61, 2) := by decide +kernel
theorem dX3_init_47 : decode cX3_init 47 = .ok (.newarray .int, 2) := by decide +kernel
theorem dX3_init_49 : decode cX3_init 49 = .ok (.putfield 27, 3) := by decide +kernel
theorem dX3_init_52 : decode cX3_init 52 = .ok (.aload_n 0, 1) := by decide +kernel
theorem dX3_init_53 : decode cX3_init 53 = .ok (.bipush 61, 2) := by decide +kernel
theorem dX3_init_55 : decode cX3_init 55 = .ok (.newarray .int, 2) := by decide +kernel
theorem dX3_init_57 : decode cX3_init 57 = .ok (.putfield 30, 3) := by decide +kernel
theorem dX3_init_60 : decode cX3_init 60 = .ok (.aload_n 0, 1) := by decide +kernel
theorem dX3_init_61 : decode cX3_init 61 = .ok (.bipush 40, 2) := by decide +kernel
theorem dX3_init_63 : decode cX3_init 63 = .ok (.newarray .int, 2) := by decide +kernel
theorem dX3_init_65 : decode cX3_init 65 = .ok (.putfield 33, 3) := by decide +kernel
theorem dX3_init_68 : decode cX3_init 68 = .ok (.aload_n 0, 1) := by decide +kernel
theorem dX3_init_69 : decode cX3_init 69 = .ok (.bipush 40, 2) := by decide +kernel
theorem dX3_init_71 : decode cX3_init 71 = .ok (.newarray .boolean, 2) := by decide +kernel
theorem dX3_init_73 : decode cX3_init 73 = .ok (.putfield 36, 3) := by decide +kernel
theorem dX3_init_76 : decode cX3_init 76 = .ok (.aload_n 0, 1) := by decide +kernel
theorem dX3_init_77 : decode cX3_init 77 = .ok (.bipush 20, 2) := by decide +kernel
theorem dX3_init_79 : decode cX3_init 79 = .ok (.newarray .boolean, 2) := by decide +kernel
theorem dX3_init_81 : decode cX3_init 81 = .ok (.putfield 40, 3) := by decide +kernel
theorem dX3_init_84 : decode cX3_init 84 = .ok (.return_, 1) := by decide +kernel
def Fn3 (u : List Nat) : List Value := [.ref (u.getD 0 0), .ref (u.getD 1 0), .ref (u.getD 2 0), .ref (u.getD 3 0), .ref (u.getD 4 0), .ref (u.getD 5 0), .ref (u.getD 6 0), .ref (u.getD 7 0), .ref (u.getD 8 0), .ref (u.getD 9 0), .int 0, .int 0, .int 0]
def Cn3 (K4 : kQ) (u : List Nat) : va_W := [((u.getD 0 0), zc K4 0 20), ((u.getD 1 0), zc K4 0 20), ((u.getD 2 0), zc K4 0 20), ((u.getD 3 0), zc K4 0 20), ((u.getD 4 0), zc K4 0 80), ((u.getD 5 0), zc K4 0 61), ((u.getD 6 0), zc K4 0 61), ((u.getD 7 0), zc K4 0 40), ((u.getD 8 0), zc K4 2 40), ((u.getD 9 0), zc K4 2 20)]
set_option maxRecDepth 100000 in
set_option maxHeartbeats 4000000 in
theorem k_X3_init (l : Launch) : KI l yX3_init cX3_init 1 1 10 382 12 [] 3 [.null, .null, .null, .null, .null, .null, .null, .null, .null, .null, .int 0, .int 0, .int 0] 10 (Fn3) Cn3 := by
  refine KI.ofG (by decide) rfl (fun _ => Nat.le_of_ble_eq_true rfl) ?_
  intro p e s m args below meth c D K4 h0 hC hin hret hao
  refine G_aload_n hC 0 dX3_init_0 rfl ?_
  refine G_obj hC oi_X3 ⟨Nat.le_of_ble_eq_true rfl, Nat.le_of_ble_eq_true rfl⟩ dX3_init_1 ?_
  refine G_aload_n hC 0 dX3_init_4 rfl ?_
  refine G_bipush (v := 20) hC dX3_init_5 (by decide) ?_
  refine G_newI (N' := 20) hC ac_I (by decide) (by decide) (by decide) ⟨Nat.le_of_ble_eq_true rfl, Nat.le_of_ble_eq_true rfl⟩ dX3_init_7 (fun q1 => ?_)
  refine G_eq (ws' := [(h0, .inr (3, [.null, .null, .null, .null, .null, .null, .null, .null, .null, .null, .int 0, .int 0, .int 0])), (q1, zc K4 0 20)]) rfl ?_
  refine G_putF hC ff_X3_9 (fun C T N h => by cases h; rfl) hin rfl rfl (Nat.le_of_ble_eq_true rfl) dX3_init_9 ?_
  refine G_eq (ws' := [(h0, .inr (3, [.ref q1, .null, .null, .null, .null, .null, .null, .null, .null, .null, .int 0, .int 0, .int 0])), (q1, zc K4 0 20)]) rfl ?_
  refine G_aload_n hC 0 dX3_init_12 rfl ?_
  refine G_bipush (v := 20) hC dX3_init_13 (by decide) ?_
  refine G_newI (N' := 20) hC ac_I (by decide) (by decide) (by decide) ⟨Nat.le_of_ble_eq_true rfl, Nat.le_of_ble_eq_true rfl⟩ dX3_init_15 (fun q2 => ?_)
  refine G_eq (ws' := [(h0, .inr (3, [.ref q1, .null, .null, .null, .null, .null, .null, .null, .null, .null, .int 0, .int 0, .int 0])), (q1, zc K4 0 20), (q2, zc K4 0 20)]) rfl ?_
  refine G_putF hC ff_X3_15 (fun C T N h => by cases h; rfl) hin rfl rfl (Nat.le_of_ble_eq_true rfl) dX3_init_17 ?_
  refine G_eq (ws' := [(h0, .inr (3, [.ref q1, .ref q2, .null, .null, .null, .null, .null, .null, .null, .null, .int 0, .int 0, .int 0])), (q1, zc K4 0 20), (q2, zc K4 0 20)]) rfl ?_
  refine G_aload_n hC 0 dX3_init_20 rfl ?_
  refine G_bipush (v := 20) hC dX3_init_21 (by decide) ?_
  refine G_newI (N' := 20) hC ac_I (by decide) (by decide) (by decide) ⟨Nat.le_of_ble_eq_true rfl, Nat.le_of_ble_eq_true rfl⟩ dX3_init_23 (fun q3 => ?_)
  refine G_eq (ws' := [(h0, .inr (3, [.ref q1, .ref q2, .null, .null, .null, .null, .null, .null, .null, .null, .int 0, .int 0, .int 0])), (q1, zc K4 0 20), (q2, zc K4 0 20), (q3, zc K4 0 20)]) rfl ?_
  refine G_putF hC ff_X3_18 (fun C T N h => by cases h; rfl) hin rfl rfl (Nat.le_of_ble_eq_true rfl) dX3_init_25 ?_
  refine G_eq (ws' := [(h0, .inr (3, [.ref q1, .ref q2, .ref q3, .null, .null, .null, .null, .null, .null, .null, .int 0, .int 0, .int 0])), (q1, zc K4 0 20), (q2, zc K4 0 20), (q3, zc K4 0 20)]) rfl ?_
  refine G_aload_n hC 0 dX3_init_28 rfl ?_
  refine G_bipush (v := 20) hC dX3_init_29 (by decide) ?_
  refine G_newI (N' := 20) hC ac_I (by decide) (by decide) (by decide) ⟨Nat.le_of_ble_eq_true rfl, Nat.le_of_ble_eq_true rfl⟩ dX3_init_31 (fun q4 => ?_)
  refine G_eq (ws' := [(h0, .inr (3, [.ref q1, .ref q2, .ref q3, .null, .null, .null, .null, .null, .null, .null, .int 0, .int 0, .int 0])), (q1, zc K4 0 20), (q2, zc K4 0 20), (q3, zc K4 0 20), (q4, zc K4 0 20)]) rfl ?_
  refine G_putF hC ff_X3_21 (fun C T N h => by cases h; rfl) hin rfl rfl (Nat.le_of_ble_eq_true rfl) dX3_init_33 ?_
  refine G_eq (ws' := [(h0, .inr (3, [.ref q1, .ref q2, .ref q3, .ref q4, .null, .null, .null, .null, .null, .null, .int 0, .int 0, .int 0])), (q1, zc K4 0 20), (q2, zc K4 0 20), (q3, zc K4 0 20), (q4, zc K4 0 20)]) rfl ?_
  refine G_aload_n hC 0 dX3_init_36 rfl ?_
  refine G_bipush (v := 80) hC dX3_init_37 (by decide) ?_
  refine G_newI (N' := 80) hC ac_I (by decide) (by decide) (by decide) ⟨Nat.le_of_ble_eq_true rfl, Nat.le_of_ble_eq_true rfl⟩ dX3_init_39 (fun q5 => ?_)
  refine G_eq (ws' := [(h0, .inr (3, [.ref q1, .ref q2, .ref q3, .ref q4, .null, .null, .null, .null, .null, .null, .int 0, .int 0, .int 0])), (q1, zc K4 0 20), (q2, zc K4 0 20), (q3, zc K4 0 20), (q4, zc K4 0 20), (q5, zc K4 0 80)]) rfl ?_
  refine G_putF hC ff_X3_24 (fun C T N h => by cases h; rfl) hin rfl rfl (Nat.le_of_ble_eq_true rfl) dX3_init_41 ?_
  refine G_eq (ws' := [(h0, .inr (3, [.ref q1, .ref q2, .ref q3, .ref q4, .ref q5, .null, .null, .null, .null, .null, .int 0, .int 0, .int 0])), (q1, zc K4 0 20), (q2, zc K4 0 20), (q3, zc K4 0 20), (q4, zc K4 0 20), (q5, zc K4 0 80)]) rfl ?_
  refine G_aload_n hC 0 dX3_init_44 rfl ?_
  refine G_bipush (v := 61) hC dX3_init_45 (by decide) ?_
  refine G_newI (N' := 61) hC ac_I (by decide) (by decide) (by decide) ⟨Nat.le_of_ble_eq_true rfl, Nat.le_of_ble_eq_true rfl⟩ dX3_init_47 (fun q6 => ?_)
  refine G_eq (ws' := [(h0, .inr (3, [.ref q1, .ref q2, .ref q3, .ref q4, .ref q5, .null, .null, .null, .null, .null, .int 0, .int 0, .int 0])), (q1, zc K4 0 20), (q2, zc K4 0 20), (q3, zc K4 0 20), (q4, zc K4 0 20), (q5, zc K4 0 80), (q6, zc K4 0 61)]) rfl ?_
  refine G_putF hC ff_X3_27 (fun C T N h => by cases h; rfl) hin rfl rfl (Nat.le_of_ble_eq_true rfl) dX3_init_49 ?_
  refine G_eq (ws' := [(h0, .inr (3, [.ref q1, .ref q2, .ref q3, .ref q4, .ref q5, .ref q6, .null, .null, .null, .null, .int 0, .int 0, .int 0])), (q1, zc K4 0 20), (q2, zc K4 0 20), (q3, zc K4 0 20), (q4, zc K4 0 20), (q5, zc K4 0 80), (q6, zc K4 0 61)]) rfl ?_
  refine G_aload_n hC 0 dX3_init_52 rfl ?_
  refine G_bipush (v := 61) hC dX3_init_53 (by decide) ?_
  refine G_newI (N' := 61) hC ac_I (by decide) (by decide) (by decide) ⟨Nat.le_of_ble_eq_true rfl, Nat.le_of_ble_eq_true rfl⟩ dX3_init_55 (fun q7 => ?_)
  refine G_eq (ws' := [(h0, .inr (3, [.ref q1, .ref q2, .ref q3, .ref q4, .ref q5, .ref q6, .null, .null, .null, .null, .int 0, .int 0, .int 0])), (q1, zc K4 0 20), (q2, zc K4 0 20), (q3, zc K4 0 20), (q4, zc K4 0 20), (q5, zc K4 0 80), (q6, zc K4 0 61), (q7, zc K4 0 61)]) rfl ?_
  refine G_putF hC ff_X3_30 (fun C T N h => by cases h; rfl) hin rfl rfl (Nat.le_of_ble_eq_true rfl) dX3_init_57 ?_
  refine G_eq (ws' := [(h0, .inr (3, [.ref q1, .ref q2, .ref q3, .ref q4, .ref q5, .ref q6, .ref q7, .null, .null, .null, .int 0, .int 0, .int 0])), (q1, zc K4 0 20), (q2, zc K4 0 20), (q3, zc K4 0 20), (q4, zc K4 0 20), (q5, zc K4 0 80), (q6, zc K4 0 61), (q7, zc K4 0 61)]) rfl ?_
  refine G_aload_n hC 0 dX3_init_60 rfl ?_
  refine G_bipush (v := 40) hC dX3_init_61 (by decide) ?_
  refine G_newI (N' := 40) hC ac_I (by decide) (by decide) (by decide) ⟨Nat.le_of_ble_eq_true rfl, Nat.le_of_ble_eq_true rfl⟩ dX3_init_63 (fun q8 => ?_)
  refine G_eq (ws' := [(h0, .inr (3, [.ref q1, .ref q2, .ref q3, .ref q4, .ref q5, .ref q6, .ref q7, .null, .null, .null, .int 0, .int 0, .int 0])), (q1, zc K4 0 20), (q2, zc K4 0 20), (q3, zc K4 0 20), (q4, zc K4 0 20), (q5, zc K4 0 80), (q6, zc K4 0 61), (q7, zc K4 0 61), (q8, zc K4 0 40)]) rfl ?_
  refine G_putF hC ff_X3_33 (fun C T N h => by cases h; rfl) hin rfl rfl (Nat.le_of_ble_eq_true rfl) dX3_init_65 ?_
  refine G_eq (ws' := [(h0, .inr (3, [.ref q1, .ref q2, .ref q3, .ref q4, .ref q5, .ref q6, .ref q7, .ref q8, .null, .null, .int 0, .int 0, .int 0])), (q1, zc K4 0 20), (q2, zc K4 0 20), (q3, zc K4 0 20), (q4, zc K4 0 20), (q5, zc K4 0 80), (q6, zc K4 0 61), (q7, zc K4 0 61), (q8, zc K4 0 40)]) rfl ?_
  refine G_aload_n hC 0 dX3_init_68 rfl ?_
  refine G_bipush (v := 40) hC dX3_init_69 (by decide) ?_
  refine G_newZ (N' := 40) hC ac_Z (by decide) (by decide) (by decide) ⟨Nat.le_of_ble_eq_true rfl, Nat.le_of_ble_eq_true rfl⟩ dX3_init_71 (fun q9 => ?_)
  refine G_eq (ws' := [(h0, .inr (3, [.ref q1, .ref q2, .ref q3, .ref q4, .ref q5, .ref q6, .ref q7, .ref q8, .null, .null, .int 0, .int 0, .int 0])), (q1, zc K4 0 20), (q2, zc K4 0 20), (q3, zc K4 0 20), (q4, zc K4 0 20), (q5, zc K4 0 80), (q6, zc K4 0 61), (q7, zc K4 0 61), (q8, zc K4 0 40), (q9, zc K4 2 40)]) rfl ?_
  refine G_putF hC ff_X3_36 (fun C T N h => by cases h; rfl) hin rfl rfl (Nat.le_of_ble_eq_true rfl) dX3_init_73 ?_
  refine G_eq (ws' := [(h0, .inr (3, [.ref q1, .ref q2, .ref q3, .ref q4, .ref q5, .ref q6, .ref q7, .ref q8, .ref q9, .null, .int 0, .int 0, .int 0])), (q1, zc K4 0 20), (q2, zc K4 0 20), (q3, zc K4 0 20), (q4, zc K4 0 20), (q5, zc K4 0 80), (q6, zc K4 0 61), (q7, zc K4 0 61), (q8, zc K4 0 40), (q9, zc K4 2 40)]) rfl ?_
  refine G_aload_n hC 0 dX3_init_76 rfl ?_
  refine G_bipush (v := 20) hC dX3_init_77 (by decide) ?_
  refine G_newZ (N' := 20) hC ac_Z (by decide) (by decide) (by decide) ⟨Nat.le_of_ble_eq_true rfl, Nat.le_of_ble_eq_true rfl⟩ dX3_init_79 (fun q10 => ?_)
  refine G_eq (ws' := [(h0, .inr (3, [.ref q1, .ref q2, .ref q3, .ref q4, .ref q5, .ref q6, .ref q7, .ref q8, .ref q9, .null, .int 0, .int 0, .int 0])), (q1, zc K4 0 20), (q2, zc K4 0 20), (q3, zc K4 0 20), (q4, zc K4 0 20), (q5, zc K4 0 80), (q6, zc K4 0 61), (q7, zc K4 0 61), (q8, zc K4 0 40), (q9, zc K4 2 40), (q10, zc K4 2 20)]) rfl ?_
  refine G_putF hC ff_X3_40 (fun C T N h => by cases h; rfl) hin rfl rfl (Nat.le_of_ble_eq_true rfl) dX3_init_81 ?_
  refine G_eq (ws' := [(h0, .inr (3, [.ref q1, .ref q2, .ref q3, .ref q4, .ref q5, .ref q6, .ref q7, .ref q8, .ref q9, .ref q10, .int 0, .int 0, .int 0])), (q1, zc K4 0 20), (q2, zc K4 0 20), (q3, zc K4 0 20), (q4, zc K4 0 20), (q5, zc K4 0 80), (q6, zc K4 0 61), (q7, zc K4 0 61), (q8, zc K4 0 40), (q9, zc K4 2 40), (q10, zc K4 2 20)]) rfl ?_
  exact G_vret (cs := 10) (sl := 382) hC [q1, q2, q3, q4, q5, q6, q7, q8, q9, q10] hret dX3_init_84 rfl (fun t a b => ⟨a, b⟩)
theorem dX7_init_0 : decode cX7_init 0 = .ok (.aload_n 0, 1) := by decide +kernel
theorem dX7_init_1 : decode cX7_init 1 = .ok (.invokespecial 3, 3) := by decide +kernel
theorem dX7_init_4 : decode cX7_init 4 = .ok (.aload_n 0, 1) := by decide +kernel
theorem dX7_init_5 : decode cX7_init 5 = .ok (.bipush 20, 2) := by decide +kernel
theorem dX7_init_7 : decode cX7_init 7 = .ok (.newarray .long, 2) := by decide +kernel
theorem dX7_init_9 : decode cX7_init 9 = .ok (.putfield 9, 3) := by decide +kernel
theorem dX7_init_12 : decode cX7_init 12 = .ok (.aload_n 0, 1) := by decide +kernel
theorem dX7_init_13 : decode cX7_init 13 = .ok (.bipush 20, 2) := by decide +kernel
theorem dX7_init_15 : decode cX7_init 15 = .ok (.newarray .long, 2) := by decide +kernel
theorem dX7_init_17 : decode cX7_init 17 = .ok (.putfield 15, 3) := by decide +kernel
theorem dX7_init_20 : decode cX7_init 20 = .ok (.aload_n 0, 1) := by decide +kernel
theorem dX7_init_21 : decode cX7_init 21 = .ok (.bipush 20, 2) := by decide +kernel
theorem dX7_init_23 : decode cX7_init 23 = .ok (.newarray .long, 2) := by decide +kernel
theorem dX7_init_25 : decode cX7_init 25 = .ok (.putfield 18, 3) := by decide +kernel
theorem dX7_init_28 : decode cX7_init 28 = .ok (.aload_n 0, 1) := by decide +kernel
theorem dX7_init_29 : decode cX7_init 29 = .ok (.bipush 40, 2) := by decide +kernel
theorem dX7_init_31 : decode cX7_init 31 = .ok (.newarray .long, 2) := by decide +kernel
theorem dX7_init_33 : decode cX7_init 33 = .ok (.putfield 21, 3) := by decide +kernel
theorem dX7_init_36 : decode cX7_init 36 = .ok (.aload_n 0, 1) := by decide +kernel
theorem dX7_init_37 : decode cX7_init 37 = .ok (.bipush 40, 2) := by decide +kernel
theorem dX7_init_39 : decode cX7_init 39 = .ok (.newarray .long, 2) := by decide +kernel
theorem dX7_init_41 : decode cX7_init 41 = .ok (.putfield 24, 3) := by decide +kernel
theorem dX7_init_44 : decode cX7_init 44 = .ok (.aload_n 0, 1) := by decide +kernel
theorem dX7_init_45 : decode cX7_init 45 = .ok (.bipush 20, 2) := by decide +kernel
theorem dX7_init_47 : decode cX7_init 47 = .ok (.newarray .int, 2) := by decide +kernel
theorem dX7_init_49 : decode cX7_init 49 = .ok (.putfield 27, 3) := by decide +kernel
theorem dX7_init_52 : decode cX7_init 52 = .ok (.aload_n 0, 1) := by decide +kernel
theorem dX7_init_53 : decode cX7_init 53 = .ok (.bipush 20, 2) := by decide +kernel
theorem dX7_init_55 : decode cX7_init 55 = .ok (.newarray .int, 2) := by decide +kernel
theorem dX7_init_57 : decode cX7_init 57 = .ok (.putfield 31, 3) := by decide +kernel
theorem dX7_init_60 : decode cX7_init 60 = .ok (.aload_n 0, 1) := by decide +kernel
theorem dX7_init_61 : decode cX7_init 61 = .ok (.bipush 20, 2) := by decide +kernel
theorem dX7_init_63 : decode cX7_init 63 = .ok (.newarray .int, 2) := by decide +kernel
theorem dX7_init_65 : decode cX7_init 65 = .ok (.putfield 34, 3) := by decide +kernel
theorem dX7_init_68 : decode cX7_init 68 = .ok (.aload_n 0, 1) := by decide +kernel
theorem dX7_init_69 : decode cX7_init 69 = .ok (.aload_n 1, 1) := by decide +kernel
theorem dX7_init_70 : decode cX7_init 70 = .ok (.putfield 37, 3) := by decide +kernel
theorem dX7_init_73 : decode cX7_init 73 = .ok (.return_, 1) := by decide +kernel
def Fn7 (sh : Nat) (u : List Nat) : List Value := [.ref sh, .ref (u.getD 0 0), .ref (u.getD 1 0), .ref (u.getD 2 0), .ref (u.getD 3 0), .ref (u.getD 4 0), .ref (u.getD 5 0), .ref (u.getD 6 0), .ref (u.getD 7 0), .int 0, .long 0]
def Cn7 (K4 : kQ) (u : List Nat) : va_W := [((u.getD 0 0), zc K4 1 20), ((u.getD 1 0), zc K4 1 20), ((u.getD 2 0), zc K4 1 20), ((u.getD 3 0), zc K4 1 40), ((u.getD 4 0), zc K4 1 40), ((u.getD 5 0), zc K4 0 20), ((u.getD 6 0), zc K4 0 20), ((u.getD 7 0), zc K4 0 20)]
set_option maxRecDepth 100000 in
set_option maxHeartbeats 4000000 in
theorem k_X7_init (l : Launch) (sh : Nat) : KI l yX7_init cX7_init 2 1 8 200 12 [.ref sh] 7 [.null, .null, .null, .null, .null, .null, .null, .null, .null, .int 0, .long 0] 8 (Fn7 sh) Cn7 := by
  refine KI.ofG (by decide) rfl (fun _ => Nat.le_of_ble_eq_true rfl) ?_
  intro p e s m args below meth c D K4 h0 hC hin hret hao
  refine G_aload_n hC 0 dX7_init_0 rfl ?_
  refine G_obj hC oi_X7 ⟨Nat.le_of_ble_eq_true rfl, Nat.le_of_ble_eq_true rfl⟩ dX7_init_1 ?_
  refine G_aload_n hC 0 dX7_init_4 rfl ?_
  refine G_bipush (v := 20) hC dX7_init_5 (by decide) ?_
  refine G_newJ (N' := 20) hC ac_J (by decide) (by decide) (by decide) ⟨Nat.le_of_ble_eq_true rfl, Nat.le_of_ble_eq_true rfl⟩ dX7_init_7 (fun q1 => ?_)
  refine G_eq (ws' := [(h0, .inr (7, [.null, .null, .null, .null, .null, .null, .null, .null, .null, .int 0, .long 0])), (q1, zc K4 1 20)]) rfl ?_
  refine G_putF hC ff_X7_9 (fun C T N h => by cases h; rfl) hin rfl rfl (Nat.le_of_ble_eq_true rfl) dX7_init_9 ?_
  refine G_eq (ws' := [(h0, .inr (7, [.null, .ref q1, .null, .null, .null, .null, .null, .null, .null, .int 0, .long 0])), (q1, zc K4 1 20)]) rfl ?_
  refine G_aload_n hC 0 dX7_init_12 rfl ?_
  refine G_bipush (v := 20) hC dX7_init_13 (by decide) ?_
  refine G_newJ (N' := 20) hC ac_J (by decide) (by decide) (by decide) ⟨Nat.le_of_ble_eq_true rfl, Nat.le_of_ble_eq_true rfl⟩ dX7_init_15 (fun q2 => ?_)
  refine G_eq (ws' := [(h0, .inr (7, [.null, .ref q1, .null, .null, .null, .null, .null, .null, .null, .int 0, .long 0])), (q1, zc K4 1 20), (q2, zc K4 1 20)]) rfl ?_
  refine G_putF hC ff_X7_15 (fun C T N h => by cases h; rfl) hin rfl rfl (Nat.le_of_ble_eq_true rfl) dX7_init_17 ?_
  refine G_eq (ws' := [(h0, .inr (7, [.null, .ref q1, .ref q2, .null, .null, .null, .null, .null, .null, .int 0, .long 0])), (q1, zc K4 1 20), (q2, zc K4 1 20)]) rfl ?_
  refine G_aload_n hC 0 dX7_init_20 rfl ?_
  refine G_bipush (v := 20) hC dX7_init_21 (by decide) ?_
  refine G_newJ (N' := 20) hC ac_J (by decide) (by decide) (by decide) ⟨Nat.le_of_ble_eq_true rfl, Nat.le_of_ble_eq_true rfl⟩ dX7_init_23 (fun q3 => ?_)
  refine G_eq (ws' := [(h0, .inr (7, [.null, .ref q1, .ref q2, .null, .null, .null, .null, .null, .null, .int 0, .long 0])), (q1, zc K4 1 20), (q2, zc K4 1 20), (q3, zc K4 1 20)]) rfl ?_
  refine G_putF hC ff_X7_18 (fun C T N h => by cases h; rfl) hin rfl rfl (Nat.le_of_ble_eq_true rfl) dX7_init_25 ?_
  refine G_eq (ws' := [(h0, .inr (7, [.null, .ref q1, .ref q2, .ref q3, .null, .null, .null, .null, .null, .int 0, .long 0])), (q1, zc K4 1 20), (q2, zc K4 1 20), (q3, zc K4 1 20)]) rfl ?_
  refine G_aload_n hC 0 dX7_init_28 rfl ?_
  refine G_bipush (v := 40) hC dX7_init_29 (by decide) ?_
  refine G_newJ (N' := 40) hC ac_J (by decide) (by decide) (by decide) ⟨Nat.le_of_ble_eq_true rfl, Nat.le_of_ble_eq_true rfl⟩ dX7_init_31 (fun q4 => ?_)
  refine G_eq (ws' := [(h0, .inr (7, [.null, .ref q1, .ref q2, .ref q3, .null, .null, .null, .null, .null, .int 0, .long 0])), (q1, zc K4 1 20), (q2, zc K4 1 20), (q3, zc K4 1 20), (q4, zc K4 1 40)]) rfl ?_
  refine G_putF hC ff_X7_21 (fun C T N h => by cases h; rfl) hin rfl rfl (Nat.le_of_ble_eq_true rfl) dX7_init_33 ?_
  refine G_eq (ws' := [(h0, .inr (7, [.null, .ref q1, .ref q2, .ref q3, .ref q4, .null, .null, .null, .null, .int 0, .long 0])), (q1, zc K4 1 20), (q2, zc K4 1 20), (q3, zc K4 1 20), (q4, zc K4 1 40)]) rfl ?_
  refine G_aload_n hC 0 dX7_init_36 rfl ?_
  refine G_bipush (v := 40) hC dX7_init_37 (by decide) ?_
  refine G_newJ (N' := 40) hC ac_J (by decide) (by decide) (by decide) ⟨Nat.le_of_ble_eq_true rfl, Nat.le_of_ble_eq_true rfl⟩ dX7_init_39 (fun q5 => ?_)
  refine G_eq (ws' := [(h0, .inr (7, [.null, .ref q1, .ref q2, .ref q3, .ref q4, .null, .null, .null, .null, .int 0, .long 0])), (q1, zc K4 1 20), (q2, zc K4 1 20), (q3, zc K4 1 20), (q4, zc K4 1 40), (q5, zc K4 1 40)]) rfl ?_
  refine G_putF hC ff_X7_24 (fun C T N h => by cases h; rfl) hin rfl rfl (Nat.le_of_ble_eq_true rfl) dX7_init_41 ?_
  refine G_eq (ws' := [(h0, .inr (7, [.null, .ref q1, .ref q2, .ref q3, .ref q4, .ref q5, .null, .null, .null, .int 0, .long 0])), (q1, zc K4 1 20), (q2, zc K4 1 20), (q3, zc K4 1 20), (q4, zc K4 1 40), (q5, zc K4 1 40)]) rfl ?_
  refine G_aload_n hC 0 dX7_init_44 rfl ?_
  refine G_bipush (v := 20) hC dX7_init_45 (by decide) ?_
  refine G_newI (N' := 20) hC ac_I (by decide) (by decide) (by decide) ⟨Nat.le_of_ble_eq_true rfl, Nat.le_of_ble_eq_true rfl⟩ dX7_init_47 (fun q6 => ?_)
  refine G_eq (ws' := [(h0, .inr (7, [.null, .ref q1, .ref q2, .ref q3, .ref q4, .ref q5, .null, .null, .null, .int 0, .long 0])), (q1, zc K4 1 20), (q2, zc K4 1 20), (q3, zc K4 1 20), (q4, zc K4 1 40), (q5, zc K4 1 40), (q6, zc K4 0 20)]) rfl ?_
  refine G_putF hC ff_X7_27 (fun C T N h => by cases h; rfl) hin rfl rfl (Nat.le_of_ble_eq_true rfl) dX7_init_49 ?_
  refine G_eq (ws' := [(h0, .inr (7, [.null, .ref q1, .ref q2, .ref q3, .ref q4, .ref q5, .ref q6, .null, .null, .int 0, .long 0])), (q1, zc K4 1 20), (q2, zc K4 1 20), (q3, zc K4 1 20), (q4, zc K4 1 40), (q5, zc K4 1 40), (q6, zc K4 0 20)]) rfl ?_
  refine G_aload_n hC 0 dX7_init_52 rfl ?_
  refine G_bipush (v := 20) hC dX7_init_53 (by decide) ?_
  refine G_newI (N' := 20) hC ac_I (by decide) (by decide) (by decide) ⟨Nat.le_of_ble_eq_true rfl, Nat.le_of_ble_eq_true rfl⟩ dX7_init_55 (fun q7 => ?_)
  refine G_eq (ws' := [(h0, .inr (7, [.null, .ref q1, .ref q2, .ref q3, .ref q4, .ref q5, .ref q6, .null, .null, .int 0, .long 0])), (q1, zc K4 1 20), (q2, zc K4 1 20), (q3, zc K4 1 20), (q4, zc K4 1 40), (q5, zc K4 1 40), (q6, zc K4 0 20), (q7, zc K4 0 20)]) rfl ?_
  refine G_putF hC ff_X7_31 (fun C T N h => by cases h; rfl) hin rfl rfl (Nat.le_of_ble_eq_true rfl) dX7_init_57 ?_
  refine G_eq (ws' := [(h0, .inr (7, [.null, .ref q1, .ref q2, .ref q3, .ref q4, .ref q5, .ref q6, .ref q7, .null, .int 0, .long 0])), (q1, zc K4 1 20), (q2, zc K4 1 20), (q3, zc K4 1 20), (q4, zc K4 1 40), (q5, zc K4 1 40), (q6, zc K4 0 20), (q7, zc K4 0 20)]) rfl ?_
  refine G_aload_n hC 0 dX7_init_60 rfl ?_
  refine G_bipush (v := 20) hC dX7_init_61 (by decide) ?_
  refine G_newI (N' := 20) hC ac_I (by decide) (by decide) (by decide) ⟨Nat.le_of_ble_eq_true rfl, Nat.le_of_ble_eq_true rfl⟩ dX7_init_63 (fun q8 => ?_)
  refine G_eq (ws' := [(h0, .inr (7, [.null, .ref q1, .ref q2, .ref q3, .ref q4, .ref q5, .ref q6, .ref q7, .null, .int 0, .long 0])), (q1, zc K4 1 20), (q2, zc K4 1 20), (q3, zc K4 1 20), (q4, zc K4 1 40), (q5, zc K4 1 40), (q6, zc K4 0 20), (q7, zc K4 0 20), (q8, zc K4 0 20)]) rfl ?_
  refine G_putF hC ff_X7_34 (fun C T N h => by cases h; rfl) hin rfl rfl (Nat.le_of_ble_eq_true rfl) dX7_init_65 ?_
  refine G_eq (ws' := [(h0, .inr (7, [.null, .ref q1, .ref q2, .ref q3, .ref q4, .ref q5, .ref q6, .ref q7, .ref q8, .int 0, .long 0])), (q1, zc K4 1 20), (q2, zc K4 1 20), (q3, zc K4 1 20), (q4, zc K4 1 40), (q5, zc K4 1 40), (q6, zc K4 0 20), (q7, zc K4 0 20), (q8, zc K4 0 20)]) rfl ?_
  refine G_aload_n hC 0 dX7_init_68 rfl ?_
  refine G_aload_n hC 1 dX7_init_69 rfl ?_
  refine G_putF hC ff_X7_37 (fun C T N h => by cases h; rfl) hin rfl rfl (Nat.le_of_ble_eq_true rfl) dX7_init_70 ?_
  refine G_eq (ws' := [(h0, .inr (7, [.ref sh, .ref q1, .ref q2, .ref q3, .ref q4, .ref q5, .ref q6, .ref q7, .ref q8, .int 0, .long 0])), (q1, zc K4 1 20), (q2, zc K4 1 20), (q3, zc K4 1 20), (q4, zc K4 1 40), (q5, zc K4 1 40), (q6, zc K4 0 20), (q7, zc K4 0 20), (q8, zc K4 0 20)]) rfl ?_
  exact G_vret (cs := 8) (sl := 200) hC [q1, q2, q3, q4, q5, q6, q7, q8] hret dX7_init_73 rfl (fun t a b => ⟨a, b⟩)
theorem dX5_init_0 : decode cX5_init 0 = .ok (.aload_n 0, 1) := by decide +kernel
theorem dX5_init_1 : decode cX5_init 1 = .ok (.invokespecial 3, 3) := by decide +kernel
theorem dX5_init_4 : decode cX5_init 4 = .ok (.aload_n 0, 1) := by decide +kernel
theorem dX5_init_5 : decode cX5_init 5 = .ok (.bipush 40, 2) := by decide +kernel
theorem dX5_init_7 : decode cX5_init 7 = .ok (.newarray .int, 2) := by decide +kernel
theorem dX5_init_9 : decode cX5_init 9 = .ok (.putfield 9, 3) := by decide +kernel
theorem dX5_init_12 : decode cX5_init 12 = .ok (.aload_n 0, 1) := by decide +kernel
theorem dX5_init_13 : decode cX5_init 13 = .ok (.bipush 61, 2) := by decide +kernel
theorem dX5_init_15 : decode cX5_init 15 = .ok (.newarray .boolean, 2) := by decide +kernel
theorem dX5_init_17 : decode cX5_init 17 = .ok (.putfield 15, 3) := by decide +kernel
theorem dX5_init_20 : decode cX5_init 20 = .ok (.aload_n 0, 1) := by decide +kernel
theorem dX5_init_21 : decode cX5_init 21 = .ok (.bipush 21, 2) := by decide +kernel
theorem dX5_init_23 : decode cX5_init 23 = .ok (.newarray .int, 2) := by decide +kernel
theorem dX5_init_25 : decode cX5_init 25 = .ok (.putfield 19, 3) := by decide +kernel
theorem dX5_init_28 : decode cX5_init 28 = .ok (.aload_n 0, 1) := by decide +kernel
theorem dX5_init_29 : decode cX5_init 29 = .ok (.bipush 21, 2) := by decide +kernel
theorem dX5_init_31 : decode cX5_init 31 = .ok (.newarray .int, 2) := by decide +kernel
theorem dX5_init_33 : decode cX5_init 33 = .ok (.putfield 22, 3) := by decide +kernel
theorem dX5_init_36 : decode cX5_init 36 = .ok (.aload_n 0, 1) := by decide +kernel
theorem dX5_init_37 : decode cX5_init 37 = .ok (.bipush 21, 2) := by decide +kernel
theorem dX5_init_39 : decode cX5_init 39 = .ok (.newarray .int, 2) := by decide +kernel
theorem dX5_init_41 : decode cX5_init 41 = .ok (.putfield 25, 3) := by decide +kernel
theorem dX5_init_44 : decode cX5_init 44 = .ok (.aload_n 0, 1) := by decide +kernel
theorem dX5_init_45 : decode cX5_init 45 = .ok (.bipush 21, 2) := by decide +kernel
theorem dX5_init_47 : decode cX5_init 47 = .ok (.newarray .boolean, 2) := by decide +kernel
theorem dX5_init_49 : decode cX5_init 49 = .ok (.putfield 28, 3) := by decide +kernel
theorem dX5_init_52 : decode cX5_init 52 = .ok (.aload_n 0, 1) := by decide +kernel
theorem dX5_init_53 : decode cX5_init 53 = .ok (.bipush 21, 2) := by decide +kernel
theorem dX5_init_55 : decode cX5_init 55 = .ok (.newarray .long, 2) := by decide +kernel
theorem dX5_init_57 : decode cX5_init 57 = .ok (.putfield 31, 3) := by decide +kernel
theorem dX5_init_60 : decode cX5_init 60 = .ok (.aload_n 0, 1) := by decide +kernel
theorem dX5_init_61 : decode cX5_init 61 = .ok (.bipush 61, 2) := by decide +kernel
theorem dX5_init_63 : decode cX5_init 63 = .ok (.newarray .long, 2) := by decide +kernel
theorem dX5_init_65 : decode cX5_init 65 = .ok (.putfield 35, 3) := by decide +kernel
theorem dX5_init_68 : decode cX5_init 68 = .ok (.aload_n 0, 1) := by decide +kernel
theorem dX5_init_69 : decode cX5_init 69 = .ok (.aload_n 1, 1) := by decide +kernel
theorem dX5_init_70 : decode cX5_init 70 = .ok (.putfield 38, 3) := by decide +kernel
theorem dX5_init_73 : decode cX5_init 73 = .ok (.return_, 1) := by decide +kernel
def Fn5 (sh : Nat) (u : List Nat) : List Value := [.ref sh, .ref (u.getD 0 0), .ref (u.getD 1 0), .ref (u.getD 2 0), .ref (u.getD 3 0), .ref (u.getD 4 0), .ref (u.getD 5 0), .ref (u.getD 6 0), .ref (u.getD 7 0), .int 0, .int 0, .long 0]
def Cn5 (K4 : kQ) (u : List Nat) : va_W := [((u.getD 0 0), zc K4 0 40), ((u.getD 1 0), zc K4 2 61), ((u.getD 2 0), zc K4 0 21), ((u.getD 3 0), zc K4 0 21), ((u.getD 4 0), zc K4 0 21), ((u.getD 5 0), zc K4 2 21), ((u.getD 6 0), zc K4 1 21), ((u.getD 7 0), zc K4 1 61)]
set_option maxRecDepth 100000 in
set_option maxHeartbeats 4000000 in
theorem k_X5_init (l : Launch) (sh : Nat) : KI l yX5_init cX5_init 2 1 8 267 12 [.ref sh] 5 [.null, .null, .null, .null, .null, .null, .null, .null, .null, .int 0, .int 0, .long 0] 8 (Fn5 sh) Cn5 := by
  refine KI.ofG (by decide) rfl (fun _ => Nat.le_of_ble_eq_true rfl) ?_
  intro p e s m args below meth c D K4 h0 hC hin hret hao
  refine G_aload_n hC 0 dX5_init_0 rfl ?_
  refine G_obj hC oi_X5 ⟨Nat.le_of_ble_eq_true rfl, Nat.le_of_ble_eq_true rfl⟩ dX5_init_1 ?_
  refine G_aload_n hC 0 dX5_init_4 rfl ?_
  refine G_bipush (v := 40) hC dX5_init_5 (by decide) ?_
  refine G_newI (N' := 40) hC ac_I (by decide) (by decide) (by decide) ⟨Nat.le_of_ble_eq_true rfl, Nat.le_of_ble_eq_true rfl⟩ dX5_init_7 (fun q1 => ?_)
  refine G_eq (ws' := [(h0, .inr (5, [.null, .null, .null, .null, .null, .null, .null, .null, .null, .int 0, .int 0, .long 0])), (q1, zc K4 0 40)]) rfl ?_
  refine G_putF hC ff_X5_9 (fun C T N h => by cases h; rfl) hin rfl rfl (Nat.le_of_ble_eq_true rfl) dX5_init_9 ?_
  refine G_eq (ws' := [(h0, .inr (5, [.null, .ref q1, .null, .null, .null, .null, .null, .null, .null, .int 0, .int 0, .long 0])), (q1, zc K4 0 40)]) rfl ?_
  refine G_aload_n hC 0 dX5_init_12 rfl ?_
  refine G_bipush (v := 61) hC dX5_init_13 (by decide) ?_
  refine G_newZ (N' := 61) hC ac_Z (by decide) (by decide) (by decide) ⟨Nat.le_of_ble_eq_true rfl, Nat.le_of_ble_eq_true rfl⟩ dX5_init_15 (fun q2 => ?_)
  refine G_eq (ws' := [(h0, .inr (5, [.null, .ref q1, .null, .null, .null, .null, .null, .null, .null, .int 0, .int 0, .long 0])), (q1, zc K4 0 40), (q2, zc K4 2 61)]) rfl ?_
  refine G_putF hC ff_X5_15 (fun C T N h => by cases h; rfl) hin rfl rfl (Nat.le_of_ble_eq_true rfl) dX5_init_17 ?_
  refine G_eq (ws' := [(h0, .inr (5, [.null, .ref q1, .ref q2, .null, .null, .null, .null, .null, .null, .int 0, .int 0, .long 0])), (q1, zc K4 0 40), (q2, zc K4 2 61)]) rfl ?_
  refine G_aload_n hC 0 dX5_init_20 rfl ?_
  refine G_bipush (v := 21) hC dX5_init_21 (by decide) ?_
  refine G_newI (N' := 21) hC ac_I (by decide) (by decide) (by decide) ⟨Nat.le_of_ble_eq_true rfl, Nat.le_of_ble_eq_true rfl⟩ dX5_init_23 (fun q3 => ?_)
  refine G_eq (ws' := [(h0, .inr (5, [.null, .ref q1, .ref q2, .null, .null, .null, .null, .null, .null, .int 0, .int 0, .long 0])), (q1, zc K4 0 40), (q2, zc K4 2 61), (q3, zc K4 0 21)]) rfl ?_
  refine G_putF hC ff_X5_19 (fun C T N h => by cases h; rfl) hin rfl rfl (Nat.le_of_ble_eq_true rfl) dX5_init_25 ?_
  refine G_eq (ws' := [(h0, .inr (5, [.null, .ref q1, .ref q2, .ref q3, .null, .null, .null, .null, .null, .int 0, .int 0, .long 0])), (q1, zc K4 0 40), (q2, zc K4 2 61), (q3, zc K4 0 21)]) rfl ?_
  refine G_aload_n hC 0 dX5_init_28 rfl ?_
  refine G_bipush (v := 21) hC dX5_init_29 (by decide) ?_
  refine G_newI (N' := 21) hC ac_I (by decide) (by decide) (by decide) ⟨Nat.le_of_ble_eq_true rfl, Nat.le_of_ble_eq_true rfl⟩ dX5_init_31 (fun q4 => ?_)
  refine G_eq (ws' := [(h0, .inr (5, [.null, .ref q1, .ref q2, .ref q3, .null, .null, .null, .null, .null, .int 0, .int 0, .long 0])), (q1, zc K4 0 40), (q2, zc K4 2 61), (q3, zc K4 0 21), (q4, zc K4 0 21)]) rfl ?_
  refine G_putF hC ff_X5_22 (fun C T N h => by cases h; rfl) hin rfl rfl (Nat.le_of_ble_eq_true rfl) dX5_init_33 ?_
  refine G_eq (ws' := [(h0, .inr (5, [.null, .ref q1, .ref q2, .ref q3, .ref q4, .null, .null, .null, .null, .int 0, .int 0, .long 0])), (q1, zc K4 0 40), (q2, zc K4 2 61), (q3, zc K4 0 21), (q4, zc K4 0 21)]) rfl ?_
  refine G_aload_n hC 0 dX5_init_36 rfl ?_
  refine G_bipush (v := 21) hC dX5_init_37 (by decide) ?_
  refine G_newI (N' := 21) hC ac_I (by decide) (by decide) (by decide) ⟨Nat.le_of_ble_eq_true rfl, Nat.le_of_ble_eq_true rfl⟩ dX5_init_39 (fun q5 => ?_)
  refine G_eq (ws' := [(h0, .inr (5, [.null, .ref q1, .ref q2, .ref q3, .ref q4, .null, .null, .null, .null, .int 0, .int 0, .long 0])), (q1, zc K4 0 40), (q2, zc K4 2 61), (q3, zc K4 0 21), (q4, zc K4 0 21), (q5, zc K4 0 21)]) rfl ?_
  refine G_putF hC ff_X5_25 (fun C T N h => by cases h; rfl) hin rfl rfl (Nat.le_of_ble_eq_true rfl) dX5_init_41 ?_
  refine G_eq (ws' := [(h0, .inr (5, [.null, .ref q1, .ref q2, .ref q3, .ref q4, .ref q5, .null, .null, .null, .int 0, .int 0, .long 0])), (q1, zc K4 0 40), (q2, zc K4 2 61), (q3, zc K4 0 21), (q4, zc K4 0 21), (q5, zc K4 0 21)]) rfl ?_
  refine G_aload_n hC 0 dX5_init_44 rfl ?_
  refine G_bipush (v := 21) hC dX5_init_45 (by decide) ?_
  refine G_newZ (N' := 21) hC ac_Z (by decide) (by decide) (by decide) ⟨Nat.le_of_ble_eq_true rfl, Nat.le_of_ble_eq_true rfl⟩ dX5_init_47 (fun q6 => ?_)
  refine G_eq (ws' := [(h0, .inr (5, [.null, .ref q1, .ref q2, .ref q3, .ref q4, .ref q5, .null, .null, .null, .int 0, .int 0, .long 0])), (q1, zc K4 0 40), (q2, zc K4 2 61), (q3, zc K4 0 21), (q4, zc K4 0 21), (q5, zc K4 0 21), (q6, zc K4 2 21)]) rfl ?_
  refine G_putF hC ff_X5_28 (fun C T N h => by cases h; rfl) hin rfl rfl (Nat.le_of_ble_eq_true rfl) dX5_init_49 ?_
  refine G_eq (ws' := [(h0, .inr (5, [.null, .ref q1, .ref q2, .ref q3, .ref q4, .ref q5, .ref q6, .null, .null, .int 0, .int 0, .long 0])), (q1, zc K4 0 40), (q2, zc K4 2 61), (q3, zc K4 0 21), (q4, zc K4 0 21), (q5, zc K4 0 21), (q6, zc K4 2 21)]) rfl ?_
  refine G_aload_n hC 0 dX5_init_52 rfl ?_
  refine G_bipush (v := 21) hC dX5_init_53 (by decide) ?_
  refine G_newJ (N' := 21) hC ac_J (by decide) (by decide) (by decide) ⟨Nat.le_of_ble_eq_true rfl, Nat.le_of_ble_eq_true rfl⟩ dX5_init_55 (fun q7 => ?_)
  refine G_eq (ws' := [(h0, .inr (5, [.null, .ref q1, .ref q2, .ref q3, .ref q4, .ref q5, .ref q6, .null, .null, .int 0, .int 0, .long 0])), (q1, zc K4 0 40), (q2, zc K4 2 61), (q3, zc K4 0 21), (q4, zc K4 0 21), (q5, zc K4 0 21), (q6, zc K4 2 21), (q7, zc K4 1 21)]) rfl ?_
  refine G_putF hC ff_X5_31 (fun C T N h => by cases h; rfl) hin rfl rfl (Nat.le_of_ble_eq_true rfl) dX5_init_57 ?_
  refine G_eq (ws' := [(h0, .inr (5, [.null, .ref q1, .ref q2, .ref q3, .ref q4, .ref q5, .ref q6, .ref q7, .null, .int 0, .int 0, .long 0])), (q1, zc K4 0 40), (q2, zc K4 2 61), (q3, zc K4 0 21), (q4, zc K4 0 21), (q5, zc K4 0 21), (q6, zc K4 2 21), (q7, zc K4 1 21)]) rfl ?_
  refine G_aload_n hC 0 dX5_init_60 rfl ?_
  refine G_bipush (v := 61) hC dX5_init_61 (by decide) ?_
  refine G_newJ (N' := 61) hC ac_J (by decide) (by decide) (by decide) ⟨Nat.le_of_ble_eq_true rfl, Nat.le_of_ble_eq_true rfl⟩ dX5_init_63 (fun q8 => ?_)
  refine G_eq (ws' := [(h0, .inr (5, [.null, .ref q1, .ref q2, .ref q3, .ref q4, .ref q5, .ref q6, .ref q7, .null, .int 0, .int 0, .long 0])), (q1, zc K4 0 40), (q2, zc K4 2 61), (q3, zc K4 0 21), (q4, zc K4 0 21), (q5, zc K4 0 21), (q6, zc K4 2 21), (q7, zc K4 1 21), (q8, zc K4 1 61)]) rfl ?_
  refine G_putF hC ff_X5_35 (fun C T N h => by cases h; rfl) hin rfl rfl (Nat.le_of_ble_eq_true rfl) dX5_init_65 ?_
  refine G_eq (ws' := [(h0, .inr (5, [.null, .ref q1, .ref q2, .ref q3, .ref q4, .ref q5, .ref q6, .ref q7, .ref q8, .int 0, .int 0, .long 0])), (q1, zc K4 0 40), (q2, zc K4 2 61), (q3, zc K4 0 21), (q4, zc K4 0 21), (q5, zc K4 0 21), (q6, zc K4 2 21), (q7, zc K4 1 21), (q8, zc K4 1 61)]) rfl ?_
  refine G_aload_n hC 0 dX5_init_68 rfl ?_
  refine G_aload_n hC 1 dX5_init_69 rfl ?_
  refine G_putF hC ff_X5_38 (fun C T N h => by cases h; rfl) hin rfl rfl (Nat.le_of_ble_eq_true rfl) dX5_init_70 ?_
  refine G_eq (ws' := [(h0, .inr (5, [.ref sh, .ref q1, .ref q2, .ref q3, .ref q4, .ref q5, .ref q6, .ref q7, .ref q8, .int 0, .int 0, .long 0])), (q1, zc K4 0 40), (q2, zc K4 2 61), (q3, zc K4 0 21), (q4, zc K4 0 21), (q5, zc K4 0 21), (q6, zc K4 2 21), (q7, zc K4 1 21), (q8, zc K4 1 61)]) rfl ?_
  exact G_vret (cs := 8) (sl := 267) hC [q1, q2, q3, q4, q5, q6, q7, q8] hret dX5_init_73 rfl (fun t a b => ⟨a, b⟩)
theorem dX9_init_0 : decode cX9_init 0 = .ok (.aload_n 0, 1) := by decide +kernel
theorem dX9_init_1 : decode cX9_init 1 = .ok (.invokespecial 1, 3) := by decide +kernel
theorem dX9_init_4 : decode cX9_init 4 = .ok (.aload_n 0, 1) := by decide +kernel
theorem dX9_init_5 : decode cX9_init 5 = .ok (.bipush 8, 2) := by decide +kernel
theorem dX9_init_7 : decode cX9_init 7 = .ok (.newarray .int, 2) := by decide +kernel
theorem dX9_init_9 : decode cX9_init 9 = .ok (.putfield 7, 3) := by decide +kernel
theorem dX9_init_12 : decode cX9_init 12 = .ok (.aload_n 0, 1) := by decide +kernel
theorem dX9_init_13 : decode cX9_init 13 = .ok (.bipush 8, 2) := by decide +kernel
theorem dX9_init_15 : decode cX9_init 15 = .ok (.newarray .int, 2) := by decide +kernel
theorem dX9_init_17 : decode cX9_init 17 = .ok (.putfield 13, 3) := by decide +kernel
theorem dX9_init_20 : decode cX9_init 20 = .ok (.aload_n 0, 1) := by decide +kernel
theorem dX9_init_21 : decode cX9_init 21 = .ok (.bipush 8, 2) := by decide +kernel
theorem dX9_init_23 : decode cX9_init 23 = .ok (.newarray .boolean, 2) := by decide +kernel
theorem dX9_init_25 : decode cX9_init 25 = .ok (.putfield 16, 3) := by decide +kernel
theorem dX9_init_28 : decode cX9_init 28 = .ok (.aload_n 0, 1) := by decide +kernel
theorem dX9_init_29 : decode cX9_init 29 = .ok (.sipush 160, 3) := by decide +kernel
theorem dX9_init_32 : decode cX9_init 32 = .ok (.newarray .int, 2) := by decide +kernel
theorem dX9_init_34 : decode cX9_init 34 = .ok (.putfield 20, 3) := by decide +kernel
theorem dX9_init_37 : decode cX9_init 37 = .ok (.aload_n 0, 1) := by decide +kernel
theorem dX9_init_38 : decode cX9_init 38 = .ok (.sipush 160, 3) := by decide +kernel
theorem dX9_init_41 : decode cX9_init 41 = .ok (.newarray .int, 2) := by decide +kernel
theorem dX9_init_43 : decode cX9_init 43 = .ok (.putfield 23, 3) := by decide +kernel
theorem dX9_init_46 : decode cX9_init 46 = .ok (.aload_n 0, 1) := by decide +kernel
theorem dX9_init_47 : decode cX9_init 47 = .ok (.sipush 320, 3) := by decide +kernel
theorem dX9_init_50 : decode cX9_init 50 = .ok (.newarray .int, 2) := by decide +kernel
theorem dX9_init_52 : decode cX9_init 52 = .ok (.putfield 26, 3) := by decide +kernel
theorem dX9_init_55 : decode cX9_init 55 = .ok (.aload_n 0, 1) := by decide +kernel
theorem dX9_init_56 : decode cX9_init 56 = .ok (.sipush 320, 3) := by decide +kernel
theorem dX9_init_59 : decode cX9_init 59 = .ok (.newarray .int, 2) := by decide +kernel
theorem dX9_init_61 : decode cX9_init 61 = .ok (.putfield 29, 3) := by decide +kernel
theorem dX9_init_64 : decode cX9_init 64 = .ok (.aload_n 0, 1) := by decide +kernel
theorem dX9_init_65 : decode cX9_init 65 = .ok (.sipush 320, 3) := by decide +kernel
theorem dX9_init_68 : decode cX9_init 68 = .ok (.newarray .int, 2) := by decide +kernel
theorem dX9_init_70 : decode cX9_init 70 = .ok (.putfield 32, 3) := by decide +kernel
theorem dX9_init_73 : decode cX9_init 73 = .ok (.aload_n 0, 1) := by decide +kernel
theorem dX9_init_74 : decode cX9_init 74 = .ok (.sipush 320, 3) := by decide +kernel
theorem dX9_init_77 : decode cX9_init 77 = .ok (.newarray .boolean, 2) := by decide +kernel
theorem dX9_init_79 : decode cX9_init 79 = .ok (.putfield 35, 3) := by decide +kernel
theorem dX9_init_82 : decode cX9_init 82 = .ok (.aload_n 0, 1) := by decide +kernel
theorem dX9_init_83 : decode cX9_init 83 = .ok (.sipush 320, 3) := by decide +kernel
theorem dX9_init_86 : decode cX9_init 86 = .ok (.newarray .int, 2) := by decide +kernel
theorem dX9_init_88 : decode cX9_init 88 = .ok (.putfield 38, 3) := by decide +kernel
theorem dX9_init_91 : decode cX9_init 91 = .ok (.aload_n 0, 1) := by decide +kernel
theorem dX9_init_92 : decode cX9_init 92 = .ok (.sipush 320, 3) := by decide +kernel
theorem dX9_init_95 : decode cX9_init 95 = .ok (.newarray .boolean, 2) := by decide +kernel
theorem dX9_init_97 : decode cX9_init 97 = .ok (.putfield 41, 3) := by decide +kernel
theorem dX9_init_100 : decode cX9_init 100 = .ok (.aload_n 0, 1) := by decide +kernel
theorem dX9_init_101 : decode cX9_init 101 = .ok (.bipush 8, 2) := by decide +kernel
theorem dX9_init_103 : decode cX9_init 103 = .ok (.newarray .long, 2) := by decide +kernel
theorem dX9_init_105 : decode cX9_init 105 = .ok (.putfield 44, 3) := by decide +kernel
theorem dX9_init_108 : decode cX9_init 108 = .ok (.aload_n 0, 1) := by decide +kernel
theorem dX9_init_109 : decode cX9_init 109 = .ok (.bipush 8, 2) := by decide +kernel
theorem dX9_init_111 : decode cX9_init 111 = .ok (.newarray .int, 2) := by decide +kernel
theorem dX9_init_113 : decode cX9_init 113 = .ok (.putfield 48, 3) := by decide +kernel
theorem dX9_init_116 : decode cX9_init 116 = .ok (.aload_n 0, 1) := by decide +kernel
theorem dX9_init_117 : decode cX9_init 117 = .ok (.bipush 8, 2) := by decide +kernel
theorem dX9_init_119 : decode cX9_init 119 = .ok (.newarray .long, 2) := by decide +kernel
theorem dX9_init_121 : decode cX9_init 121 = .ok (.putfield 51, 3) := by decide +kernel
theorem dX9_init_124 : decode cX9_init 124 = .ok (.aload_n 0, 1) := by decide +kernel
theorem dX9_init_125 : decode cX9_init 125 = .ok (.sipush 160, 3) := by decide +kernel
theorem dX9_init_128 : decode cX9_init 128 = .ok (.newarray .long, 2) := by decide +kernel
theorem dX9_init_130 : decode cX9_init 130 = .ok (.putfield 54, 3) := by decide +kernel
theorem dX9_init_133 : decode cX9_init 133 = .ok (.aload_n 0, 1) := by decide +kernel
theorem dX9_init_134 : decode cX9_init 134 = .ok (.sipush 160, 3) := by decide +kernel
theorem dX9_init_137 : decode cX9_init 137 = .ok (.newarray .long, 2) := by decide +kernel
theorem dX9_init_139 : decode cX9_init 139 = .ok (.putfield 57, 3) := by decide +kernel
theorem dX9_init_142 : decode cX9_init 142 = .ok (.aload_n 0, 1) := by decide +kernel
theorem dX9_init_143 : decode cX9_init 143 = .ok (.sipush 320, 3) := by decide +kernel
theorem dX9_init_146 : decode cX9_init 146 = .ok (.newarray .long, 2) := by decide +kernel
theorem dX9_init_148 : decode cX9_init 148 = .ok (.putfield 60, 3) := by decide +kernel
theorem dX9_init_151 : decode cX9_init 151 = .ok (.aload_n 0, 1) := by decide +kernel
theorem dX9_init_152 : decode cX9_init 152 = .ok (.sipush 160, 3) := by decide +kernel
theorem dX9_init_155 : decode cX9_init 155 = .ok (.newarray .long, 2) := by decide +kernel
theorem dX9_init_157 : decode cX9_init 157 = .ok (.putfield 63, 3) := by decide +kernel
theorem dX9_init_160 : decode cX9_init 160 = .ok (.aload_n 0, 1) := by decide +kernel
theorem dX9_init_161 : decode cX9_init 161 = .ok (.bipush 8, 2) := by decide +kernel
theorem dX9_init_163 : decode cX9_init 163 = .ok (.newarray .long, 2) := by decide +kernel
theorem dX9_init_165 : decode cX9_init 165 = .ok (.putfield 66, 3) := by decide +kernel
theorem dX9_init_168 : decode cX9_init 168 = .ok (.aload_n 0, 1) := by decide +kernel
theorem dX9_init_169 : decode cX9_init 169 = .ok (.bipush 8, 2) := by decide +kernel
theorem dX9_init_171 : decode cX9_init 171 = .ok (.newarray .long, 2) := by decide +kernel
theorem dX9_init_173 : decode cX9_init 173 = .ok (.putfield 69, 3) := by decide +kernel
theorem dX9_init_176 : decode cX9_init 176 = .ok (.aload_n 0, 1) := by decide +kernel
theorem dX9_init_177 : decode cX9_init 177 = .ok (.sipush 160, 3) := by decide +kernel
theorem dX9_init_180 : decode cX9_init 180 = .ok (.newarray .long, 2) := by decide +kernel
theorem dX9_init_182 : decode cX9_init 182 = .ok (.putfield 72, 3) := by decide +kernel
theorem dX9_init_185 : decode cX9_init 185 = .ok (.aload_n 0, 1) := by decide +kernel
theorem dX9_init_186 : decode cX9_init 186 = .ok (.sipush 320, 3) := by decide +kernel
theorem dX9_init_189 : decode cX9_init 189 = .ok (.newarray .long, 2) := by decide +kernel
theorem dX9_init_191 : decode cX9_init 191 = .ok (.putfield 75, 3) := by decide +kernel
theorem dX9_init_194 : decode cX9_init 194 = .ok (.aload_n 0, 1) := by decide +kernel
theorem dX9_init_195 : decode cX9_init 195 = .ok (.sipush 320, 3) := by decide +kernel
theorem dX9_init_198 : decode cX9_init 198 = .ok (.newarray .long, 2) := by decide +kernel
theorem dX9_init_200 : decode cX9_init 200 = .ok (.putfield 78, 3) := by decide +kernel
theorem dX9_init_203 : decode cX9_init 203 = .ok (.aload_n 0, 1) := by decide +kernel
theorem dX9_init_204 : decode cX9_init 204 = .ok (.bipush 8, 2) := by decide +kernel
theorem dX9_init_206 : decode cX9_init 206 = .ok (.newarray .int, 2) := by decide +kernel
theorem dX9_init_208 : decode cX9_init 208 = .ok (.putfield 81, 3) := by decide +kernel
theorem dX9_init_211 : decode cX9_init 211 = .ok (.aload_n 0, 1) := by decide +kernel
theorem dX9_init_212 : decode cX9_init 212 = .ok (.sipush 128, 3) := by decide +kernel
theorem dX9_init_215 : decode cX9_init 215 = .ok (.newarray .long, 2) := by decide +kernel
theorem dX9_init_217 : decode cX9_init 217 = .ok (.putfield 84, 3) := by decide +kernel
theorem dX9_init_220 : decode cX9_init 220 = .ok (.aload_n 0, 1) := by decide +kernel
theorem dX9_init_221 : decode cX9_init 221 = .ok (.sipush 128, 3) := by decide +kernel
theorem dX9_init_224 : decode cX9_init 224 = .ok (.newarray .long, 2) := by decide +kernel
theorem dX9_init_226 : decode cX9_init 226 = .ok (.putfield 87, 3) := by decide +kernel
theorem dX9_init_229 : decode cX9_init 229 = .ok (.aload_n 0, 1) := by decide +kernel
theorem dX9_init_230 : decode cX9_init 230 = .ok (.bipush 30, 2) := by decide +kernel
theorem dX9_init_232 : decode cX9_init 232 = .ok (.newarray .int, 2) := by decide +kernel
theorem dX9_init_234 : decode cX9_init 234 = .ok (.putfield 90, 3) := by decide +kernel
theorem dX9_init_237 : decode cX9_init 237 = .ok (.aload_n 0, 1) := by decide +kernel
theorem dX9_init_238 : decode cX9_init 238 = .ok (.bipush 30, 2) := by decide +kernel
theorem dX9_init_240 : decode cX9_init 240 = .ok (.newarray .int, 2) := by decide +kernel
theorem dX9_init_242 : decode cX9_init 242 = .ok (.putfield 93, 3) := by decide +kernel
theorem dX9_init_245 : decode cX9_init 245 = .ok (.aload_n 0, 1) := by decide +kernel
theorem dX9_init_246 : decode cX9_init 246 = .ok (.bipush 30, 2) := by decide +kernel
theorem dX9_init_248 : decode cX9_init 248 = .ok (.newarray .long, 2) := by decide +kernel
theorem dX9_init_250 : decode cX9_init 250 = .ok (.putfield 96, 3) := by decide +kernel
theorem dX9_init_253 : decode cX9_init 253 = .ok (.aload_n 0, 1) := by decide +kernel
theorem dX9_init_254 : decode cX9_init 254 = .ok (.bipush 21, 2) := by decide +kernel
theorem dX9_init_256 : decode cX9_init 256 = .ok (.newarray .boolean, 2) := by decide +kernel
theorem dX9_init_258 : decode cX9_init 258 = .ok (.putfield 99, 3) := by decide +kernel
theorem dX9_init_261 : decode cX9_init 261 = .ok (.aload_n 0, 1) := by decide +kernel
theorem dX9_init_262 : decode cX9_init 262 = .ok (.bipush 21, 2) := by decide +kernel
theorem dX9_init_264 : decode cX9_init 264 = .ok (.newarray .int, 2) := by decide +kernel
theorem dX9_init_266 : decode cX9_init 266 = .ok (.putfield 102, 3) := by decide +kernel
theorem dX9_init_269 : decode cX9_init 269 = .ok (.aload_n 0, 1) := by decide +kernel
theorem dX9_init_270 : decode cX9_init 270 = .ok (.bipush 40, 2) := by decide +kernel
theorem dX9_init_272 : decode cX9_init 272 = .ok (.newarray .boolean, 2) := by decide +kernel
theorem dX9_init_274 : decode cX9_init 274 = .ok (.putfield 105, 3) := by decide +kernel
theorem dX9_init_277 : decode cX9_init 277 = .ok (.aload_n 0, 1) := by decide +kernel
theorem dX9_init_278 : decode cX9_init 278 = .ok (.bipush 40, 2) := by decide +kernel
theorem dX9_init_280 : decode cX9_init 280 = .ok (.newarray .boolean, 2) := by decide +kernel
theorem dX9_init_282 : decode cX9_init 282 = .ok (.putfield 108, 3) := by decide +kernel
theorem dX9_init_285 : decode cX9_init 285 = .ok (.aload_n 0, 1) := by decide +kernel
theorem dX9_init_286 : decode cX9_init 286 = .ok (.bipush 61, 2) := by decide +kernel
theorem dX9_init_288 : decode cX9_init 288 = .ok (.newarray .int, 2) := by decide +kernel
theorem dX9_init_290 : decode cX9_init 290 = .ok (.putfield 111, 3) := by decide +kernel
theorem dX9_init_293 : decode cX9_init 293 = .ok (.aload_n 0, 1) := by decide +kernel
theorem dX9_init_294 : decode cX9_init 294 = .ok (.bipush 61, 2) := by decide +kernel
theorem dX9_init_296 : decode cX9_init 296 = .ok (.newarray .int, 2) := by decide +kernel
theorem dX9_init_298 : decode cX9_init 298 = .ok (.putfield 114, 3) := by decide +kernel
theorem dX9_init_301 : decode cX9_init 301 = .ok (.aload_n 0, 1) := by decide +kernel
theorem dX9_init_302 : decode cX9_init 302 = .ok (.bipush 61, 2) := by decide +kernel
theorem dX9_init_304 : decode cX9_init 304 = .ok (.newarray .long, 2) := by decide +kernel
theorem dX9_init_306 : decode cX9_init 306 = .ok (.putfield 117, 3) := by decide +kernel
theorem dX9_init_309 : decode cX9_init 309 = .ok (.aload_n 0, 1) := by decide +kernel
theorem dX9_init_310 : decode cX9_init 310 = .ok (.bipush 61, 2) := by decide +kernel
theorem dX9_init_312 : decode cX9_init 312 = .ok (.newarray .boolean, 2) := by decide +kernel
theorem dX9_init_314 : decode cX9_init 314 = .ok (.putfield 120, 3) := by decide +kernel
theorem dX9_init_317 : decode cX9_init 317 = .ok (.aload_n 0, 1) := by decide +kernel
theorem dX9_init_318 : decode cX9_init 318 = .ok (.bipush 21, 2) := by decide +kernel
theorem dX9_init_320 : decode cX9_init 320 = .ok (.newarray .int, 2) := by decide +kernel
theorem dX9_init_322 : decode cX9_init 322 = .ok (.putfield 123, 3) := by decide +kernel
theorem dX9_init_325 : decode cX9_init 325 = .ok (.aload_n 0, 1) := by decide +kernel
theorem dX9_init_326 : decode cX9_init 326 = .ok (.bipush 21, 2) := by decide +kernel
theorem dX9_init_328 : decode cX9_init 328 = .ok (.newarray .int, 2) := by decide +kernel
theorem dX9_init_330 : decode cX9_init 330 = .ok (.putfield 126, 3) := by decide +kernel
theorem dX9_init_333 : decode cX9_init 333 = .ok (.aload_n 0, 1) := by decide +kernel
theorem dX9_init_334 : decode cX9_init 334 = .ok (.bipush 21, 2) := by decide +kernel
theorem dX9_init_336 : decode cX9_init 336 = .ok (.newarray .int, 2) := by decide +kernel
theorem dX9_init_338 : decode cX9_init 338 = .ok (.putfield 129, 3) := by decide +kernel
theorem dX9_init_341 : decode cX9_init 341 = .ok (.aload_n 0, 1) := by decide +kernel
theorem dX9_init_342 : decode cX9_init 342 = .ok (.sipush 320, 3) := by decide +kernel
theorem dX9_init_345 : decode cX9_init 345 = .ok (.newarray .int, 2) := by decide +kernel
theorem dX9_init_347 : decode cX9_init 347 = .ok (.putfield 132, 3) := by decide +kernel
theorem dX9_init_350 : decode cX9_init 350 = .ok (.aload_n 0, 1) := by decide +kernel
theorem dX9_init_351 : decode cX9_init 351 = .ok (.sipush 320, 3) := by decide +kernel
theorem dX9_init_354 : decode cX9_init 354 = .ok (.newarray .int, 2) := by decide +kernel
theorem dX9_init_356 : decode cX9_init 356 = .ok (.putfield 135, 3) := by decide +kernel
theorem dX9_init_359 : decode cX9_init 359 = .ok (.aload_n 0, 1) := by decide +kernel
theorem dX9_init_360 : decode cX9_init 360 = .ok (.sipush 320, 3) := by decide +kernel
theorem dX9_init_363 : decode cX9_init 363 = .ok (.newarray .long, 2) := by decide +kernel
theorem dX9_init_365 : decode cX9_init 365 = .ok (.putfield 138, 3) := by decide +kernel
theorem dX9_init_368 : decode cX9_init 368 = .ok (.aload_n 0, 1) := by decide +kernel
theorem dX9_init_369 : decode cX9_init 369 = .ok (.sipush 320, 3) := by decide +kernel
theorem dX9_init_372 : decode cX9_init 372 = .ok (.newarray .int, 2) := by decide +kernel
theorem dX9_init_374 : decode cX9_init 374 = .ok (.putfield 141, 3) := by decide +kernel
theorem dX9_init_377 : decode cX9_init 377 = .ok (.aload_n 0, 1) := by decide +kernel
theorem dX9_init_378 : decode cX9_init 378 = .ok (.bipush 21, 2) := by decide +kernel
theorem dX9_init_380 : decode cX9_init 380 = .ok (.newarray .long, 2) := by decide +kernel
theorem dX9_init_382 : decode cX9_init 382 = .ok (.putfield 144, 3) := by decide +kernel
theorem dX9_init_385 : decode cX9_init 385 = .ok (.aload_n 0, 1) := by decide +kernel
theorem dX9_init_386 : decode cX9_init 386 = .ok (.bipush 21, 2) := by decide +kernel
theorem dX9_init_388 : decode cX9_init 388 = .ok (.newarray .int, 2) := by decide +kernel
theorem dX9_init_390 : decode cX9_init 390 = .ok (.putfield 147, 3) := by decide +kernel
theorem dX9_init_393 : decode cX9_init 393 = .ok (.aload_n 0, 1) := by decide +kernel
theorem dX9_init_394 : decode cX9_init 394 = .ok (.bipush 21, 2) := by decide +kernel
theorem dX9_init_396 : decode cX9_init 396 = .ok (.newarray .int, 2) := by decide +kernel
theorem dX9_init_398 : decode cX9_init 398 = .ok (.putfield 150, 3) := by decide +kernel
theorem dX9_init_401 : decode cX9_init 401 = .ok (.return_, 1) := by decide +kernel
def Fn9 (u : List Nat) : List Value := [.int 0, .ref (u.getD 0 0), .ref (u.getD 1 0), .ref (u.getD 2 0), .ref (u.getD 3 0), .ref (u.getD 4 0), .ref (u.getD 5 0), .ref (u.getD 6 0), .ref (u.getD 7 0), .ref (u.getD 8 0), .ref (u.getD 9 0), .ref (u.getD 10 0), .ref (u.getD 11 0), .ref (u.getD 12 0), .ref (u.getD 13 0), .ref (u.getD 14 0), .ref (u.getD 15 0), .ref (u.getD 16 0), .ref (u.getD 17 0), .ref (u.getD 18 0), .ref (u.getD 19 0), .ref (u.getD 20 0), .ref (u.getD 21 0), .ref (u.getD 22 0), .ref (u.getD 23 0), .ref (u.getD 24 0), .ref (u.getD 25 0), .int 0, .int 0, .int 0, .int 0, .ref (u.getD 26 0), .ref (u.getD 27 0), .ref (u.getD 28 0), .int 0, .ref (u.getD 29 0), .ref (u.getD 30 0), .ref (u.getD 31 0), .ref (u.getD 32 0), .ref (u.getD 33 0), .ref (u.getD 34 0), .ref (u.getD 35 0), .ref (u.getD 36 0), .int 0, .ref (u.getD 37 0), .ref (u.getD 38 0), .ref (u.getD 39 0), .int 0, .ref (u.getD 40 0), .ref (u.getD 41 0), .ref (u.getD 42 0), .ref (u.getD 43 0), .int 0, .ref (u.getD 44 0), .ref (u.getD 45 0), .ref (u.getD 46 0)]
def Cn9 (K4 : kQ) (u : List Nat) : va_W := [((u.getD 0 0), zc K4 0 8), ((u.getD 1 0), zc K4 0 8), ((u.getD 2 0), zc K4 2 8), ((u.getD 3 0), zc K4 0 160), ((u.getD 4 0), zc K4 0 160), ((u.getD 5 0), zc K4 0 320), ((u.getD 6 0), zc K4 0 320), ((u.getD 7 0), zc K4 0 320), ((u.getD 8 0), zc K4 2 320), ((u.getD 9 0), zc K4 0 320), ((u.getD 10 0), zc K4 2 320), ((u.getD 11 0), zc K4 1 8), ((u.getD 12 0), zc K4 0 8), ((u.getD 13 0), zc K4 1 8), ((u.getD 14 0), zc K4 1 160), ((u.getD 15 0), zc K4 1 160), ((u.getD 16 0), zc K4 1 320), ((u.getD 17 0), zc K4 1 160), ((u.getD 18 0), zc K4 1 8), ((u.getD 19 0), zc K4 1 8), ((u.getD 20 0), zc K4 1 160), ((u.getD 21 0), zc K4 1 320), ((u.getD 22 0), zc K4 1 320), ((u.getD 23 0), zc K4 0 8), ((u.getD 24 0), zc K4 1 128), ((u.getD 25 0), zc K4 1 128), ((u.getD 26 0), zc K4 0 30), ((u.getD 27 0), zc K4 0 30), ((u.getD 28 0), zc K4 1 30), ((u.getD 29 0), zc K4 2 21), ((u.getD 30 0), zc K4 0 21), ((u.getD 31 0), zc K4 2 40), ((u.getD 32 0), zc K4 2 40), ((u.getD 33 0), zc K4 0 61), ((u.getD 34 0), zc K4 0 61), ((u.getD 35 0), zc K4 1 61), ((u.getD 36 0), zc K4 2 61), ((u.getD 37 0), zc K4 0 21), ((u.getD 38 0), zc K4 0 21), ((u.getD 39 0), zc K4 0 21), ((u.getD 40 0), zc K4 0 320), ((u.getD 41 0), zc K4 0 320), ((u.getD 42 0), zc K4 1 320), ((u.getD 43 0), zc K4 0 320), ((u.getD 44 0), zc K4 1 21), ((u.getD 45 0), zc K4 0 21), ((u.getD 46 0), zc K4 0 21)]
set_option maxRecDepth 100000 in
set_option maxHeartbeats 4000000 in
theorem k_X9_init (l : Launch) : KI l yX9_init cX9_init 1 1 47 6030 12 [] 9 [.int 0, .null, .null, .null, .null, .null, .null, .null, .null, .null, .null, .null, .null, .null, .null, .null, .null, .null, .null, .null, .null, .null, .null, .null, .null, .null, .null, .int 0, .int 0, .int 0, .int 0, .null, .null, .null, .int 0, .null, .null, .null, .null, .null, .null, .null, .null, .int 0, .null, .null, .null, .int 0, .null, .null, .null, .null, .int 0, .null, .null, .null] 47 (Fn9) Cn9 := by
  refine KI.ofG (by decide) rfl (fun _ => Nat.le_of_ble_eq_true rfl) ?_
  intro p e s m args below meth c D K4 h0 hC hin hret hao
  refine G_aload_n hC 0 dX9_init_0 rfl ?_
  refine G_obj hC oi_X9 ⟨Nat.le_of_ble_eq_true rfl, Nat.le_of_ble_eq_true rfl⟩ dX9_init_1 ?_
  refine G_aload_n hC 0 dX9_init_4 rfl ?_
  refine G_bipush (v := 8) hC dX9_init_5 (by decide) ?_
  refine G_newI (N' := 8) hC ac_I (by decide) (by decide) (by decide) ⟨Nat.le_of_ble_eq_true rfl, Nat.le_of_ble_eq_true rfl⟩ dX9_init_7 (fun q1 => ?_)
  refine G_eq (ws' := [(h0, .inr (9, [.int 0, .null, .null, .null, .null, .null, .null, .null, .null, .null, .null, .null, .null, .null, .null, .null, .null, .null, .null, .null, .null, .null, .null, .null, .null, .null, .null, .int 0, .int 0, .int 0, .int 0, .null, .null, .null, .int 0, .null, .null, .null, .null, .null, .null, .null, .null, .int 0, .null, .null, .null, .int 0, .null, .null, .null, .null, .int 0, .null, .null, .null])), (q1, zc K4 0 8)]) rfl ?_
  refine G_putF hC ff_X9_7 (fun C T N h => by cases h; rfl) hin rfl rfl (Nat.le_of_ble_eq_true rfl) dX9_init_9 ?_
  refine G_eq (ws' := [(h0, .inr (9, [.int 0, .ref q1, .null, .null, .null, .null, .null, .null, .null, .null, .null, .null, .null, .null, .null, .null, .null, .null, .null, .null, .null, .null, .null, .null, .null, .null, .null, .int 0, .int 0, .int 0, .int 0, .null, .null, .null, .int 0, .null, .null, .null, .null, .null, .null, .null, .null, .int 0, .null, .null, .null, .int 0, .null, .null, .null, .null, .int 0, .null, .null, .null])), (q1, zc K4 0 8)]) rfl ?_
  refine G_aload_n hC 0 dX9_init_12 rfl ?_
  refine G_bipush (v := 8) hC dX9_init_13 (by decide) ?_
  refine G_newI (N' := 8) hC ac_I (by decide) (by decide) (by decide) ⟨Nat.le_of_ble_eq_true rfl, Nat.le_of_ble_eq_true rfl⟩ dX9_init_15 (fun q2 => ?_)
  refine G_eq (ws' := [(h0, .inr (9, [.int 0, .ref q1, .null, .null, .null, .null, .null, .null, .null, .null, .null, .null, .null, .null, .null, .null, .null, .null, .null, .null, .null, .null, .null, .null, .null, .null, .null, .int 0, .int 0, .int 0, .int 0, .null, .null, .null, .int 0, .null, .null, .null, .null, .null, .null, .null, .null, .int 0, .null, .null, .null, .int 0, .null, .null, .null, .null, .int 0, .null, .null, .null])), (q1, zc K4 0 8), (q2, zc K4 0 8)]) rfl ?_
  refine G_putF hC ff_X9_13 (fun C T N h => by cases h; rfl) hin rfl rfl (Nat.le_of_ble_eq_true rfl) dX9_init_17 ?_
  refine G_eq (ws' := [(h0, .inr (9, [.int 0, .ref q1, .ref q2, .null, .null, .null, .null, .null, .null, .null, .null, .null, .null, .null, .null, .null, .null, .null, .null, .null, .null, .null, .null, .null, .null, .null, .null, .int 0, .int 0, .int 0, .int 0, .null, .null, .null, .int 0, .null, .null, .null, .null, .null, .null, .null, .null, .int 0, .null, .null, .null, .int 0, .null, .null, .null, .null, .int 0, .null, .null, .null])), (q1, zc K4 0 8), (q2, zc K4 0 8)]) rfl ?_
  refine G_aload_n hC 0 dX9_init_20 rfl ?_
  refine G_bipush (v := 8) hC dX9_init_21 (by decide) ?_
  refine G_newZ (N' := 8) hC ac_Z (by decide) (by decide) (by decide) ⟨Nat.le_of_ble_eq_true rfl, Nat.le_of_ble_eq_true rfl⟩ dX9_init_23 (fun q3 => ?_)
  refine G_eq (ws' := [(h0, .inr (9, [.int 0, .ref q1, .ref q2, .null, .null, .null, .null, .null, .null, .null, .null, .null, .null, .null, .null, .null, .null, .null, .null, .null, .null, .null, .null, .null, .null, .null, .null, .int 0, .int 0, .int 0, .int 0, .null, .null, .null, .int 0, .null, .null, .null, .null, .null, .null, .null, .null, .int 0, .null, .null, .null, .int 0, .null, .null, .null, .null, .int 0, .null, .null, .null])), (q1, zc K4 0 8), (q2, zc K4 0 8), (q3, zc K4 2 8)]) rfl ?_
  refine G_putF hC ff_X9_16 (fun C T N h => by cases h; rfl) hin rfl rfl (Nat.le_of_ble_eq_true rfl) dX9_init_25 ?_
  refine G_eq (ws' := [(h0, .inr (9, [.int 0, .ref q1, .ref q2, .ref q3, .null, .null, .null, .null, .null, .null, .null, .null, .null, .null, .null, .null, .null, .null, .null, .null, .null, .null, .null, .null, .null, .null, .null, .int 0, .int 0, .int 0, .int 0, .null, .null, .null, .int 0, .null, .null, .null, .null, .null, .null, .null, .null, .int 0, .null, .null, .null, .int 0, .null, .null, .null, .null, .int 0, .null, .null, .null])), (q1, zc K4 0 8), (q2, zc K4 0 8), (q3, zc K4 2 8)]) rfl ?_
  refine G_aload_n hC 0 dX9_init_28 rfl ?_
  refine G_sipush (v := 160) hC dX9_init_29 (by decide) ?_
  refine G_newI (N' := 160) hC ac_I (by decide) (by decide) (by decide) ⟨Nat.le_of_ble_eq_true rfl, Nat.le_of_ble_eq_true rfl⟩ dX9_init_32 (fun q4 => ?_)
  refine G_eq (ws' := [(h0, .inr (9, [.int 0, .ref q1, .ref q2, .ref q3, .null, .null, .null, .null, .null, .null, .null, .null, .null, .null, .null, .null, .null, .null, .null, .null, .null, .null, .null, .null, .null, .null, .null, .int 0, .int 0, .int 0, .int 0, .null, .null, .null, .int 0, .null, .null, .null, .null, .null, .null, .null, .null, .int 0, .null, .null, .null, .int 0, .null, .null, .null, .null, .int 0, .null, .null, .null])), (q1, zc K4 0 8), (q2, zc K4 0 8), (q3, zc K4 2 8), (q4, zc K4 0 160)]) rfl ?_
  refine G_putF hC ff_X9_20 (fun C T N h => by cases h; rfl) hin rfl rfl (Nat.le_of_ble_eq_true rfl) dX9_init_34 ?_
  refine G_eq (ws' := [(h0, .inr (9, [.int 0, .ref q1, .ref q2, .ref q3, .ref q4, .null, .null, .null, .null, .null, .null, .null, .null, .null, .null, .null, .null, .null, .null, .null, .null, .null, .null, .null, .null, .null, .null, .int 0, .int 0, .int 0, .int 0, .null, .null, .null, .int 0, .null, .null, .null, .null, .null, .null, .null, .null, .int 0, .null, .null, .null, .int 0, .null, .null, .null, .null, .int 0, .null, .null, .null])), (q1, zc K4 0 8), (q2, zc K4 0 8), (q3, zc K4 2 8), (q4, zc K4 0 160)]) rfl ?_
  refine G_aload_n hC 0 dX9_init_37 rfl ?_
  refine G_sipush (v := 160) hC dX9_init_38 (by decide) ?_
  refine G_newI (N' := 160) hC ac_I (by decide) (by decide) (by decide) ⟨Nat.le_of_ble_eq_true rfl, Nat.le_of_ble_eq_true rfl⟩ dX9_init_41 (fun q5 => ?_)
  refine G_eq (ws' := [(h0, .inr (9, [.int 0, .ref q1, .ref q2, .ref q3, .ref q4, .null, .null, .null, .null, .null, .null, .null, .null, .null, .null, .null, .null, .null, .null, .null, .null, .null, .null, .null, .null, .null, .null, .int 0, .int 0, .int 0, .int 0, .null, .null, .null, .int 0, .null, .null, .null, .null, .null, .null, .null, .null, .int 0, .null, .null, .null, .int 0, .null, .null, .null, .null, .int 0, .null, .null, .null])), (q1, zc K4 0 8), (q2, zc K4 0 8), (q3, zc K4 2 8), (q4, zc K4 0 160), (q5, zc K4 0 160)]) rfl ?_
  refine G_putF hC ff_X9_23 (fun C T N h => by cases h; rfl) hin rfl rfl (Nat.le_of_ble_eq_true rfl) dX9_init_43 ?_
  refine G_eq (ws' := [(h0, .inr (9, [.int 0, .ref q1, .ref q2, .ref q3, .ref q4, .ref q5, .null, .null, .null, .null, .null, .null, .null, .null, .null, .null, .null, .null, .null, .null, .null, .null, .null, .null, .null, .null, .null, .int 0, .int 0, .int 0, .int 0, .null, .null, .null, .int 0, .null, .null, .null, .null, .null, .null, .null, .null, .int 0, .null, .null, .null, .int 0, .null, .null, .null, .null, .int 0, .null, .null, .null])), (q1, zc K4 0 8), (q2, zc K4 0 8), (q3, zc K4 2 8), (q4, zc K4 0 160), (q5, zc K4 0 160)]) rfl ?_
  refine G_aload_n hC 0 dX9_init_46 rfl ?_
  refine G_sipush (v := 320) hC dX9_init_47 (by decide) ?_
  refine G_newI (N' := 320) hC ac_I (by decide) (by decide) (by decide) ⟨Nat.le_of_ble_eq_true rfl, Nat.le_of_ble_eq_true rfl⟩ dX9_init_50 (fun q6 => ?_)
  refine G_eq (ws' := [(h0, .inr (9, [.int 0, .ref q1, .ref q2, .ref q3, .ref q4, .ref q5, .null, .null, .null, .null, .null, .null, .null, .null, .null, .null, .null, .null, .null, .null, .null, .null, .null, .null, .null, .null, .null, .int 0, .int 0, .int 0, .int 0, .null, .null, .null, .int 0, .null, .null, .null, .null, .null, .null, .null, .null, .int 0, .null, .null, .null, .int 0, .null, .null, .null, .null, .int 0, .null, .null, .null])), (q1, zc K4 0 8), (q2, zc K4 0 8), (q3, zc K4 2 8), (q4, zc K4 0 160), (q5, zc K4 0 160), (q6, zc K4 0 320)]) rfl ?_
  refine G_putF hC ff_X9_26 (fun C T N h => by cases h; rfl) hin rfl rfl (Nat.le_of_ble_eq_true rfl) dX9_init_52 ?_
  refine G_eq (ws' := [(h0, .inr (9, [.int 0, .ref q1, .ref q2, .ref q3, .ref q4, .ref q5, .ref q6, .null, .null, .null, .null, .null, .null, .null, .null, .null, .null, .null, .null, .null, .null, .null, .null, .null, .null, .null, .null, .int 0, .int 0, .int 0, .int 0, .null, .null, .null, .int 0, .null, .null, .null, .null, .null, .null, .null, .null, .int 0, .null, .null, .null, .int 0, .null, .null, .null, .null, .int 0, .null, .null, .null])), (q1, zc K4 0 8), (q2, zc K4 0 8), (q3, zc K4 2 8), (q4, zc K4 0 160), (q5, zc K4 0 160), (q6, zc K4 0 320)]) rfl ?_
  refine G_aload_n hC 0 dX9_init_55 rfl ?_
  refine G_sipush (v := 320) hC dX9_init_56 (by decide) ?_
  refine G_newI (N' := 320) hC ac_I (by decide) (by decide) (by decide) ⟨Nat.le_of_ble_eq_true rfl, Nat.le_of_ble_eq_true rfl⟩ dX9_init_59 (fun q7 => ?_)
  refine G_eq (ws' := [(h0, .inr (9, [.int 0, .ref q1, .ref q2, .ref q3, .ref q4, .ref q5, .ref q6, .null, .null, .null, .null, .null, .null, .null, .null, .null, .null, .null, .null, .null, .null, .null, .null, .null, .null, .null, .null, .int 0, .int 0, .int 0, .int 0, .null, .null, .null, .int 0, .null, .null, .null, .null, .null, .null, .null, .null, .int 0, .null, .null, .null, .int 0, .null, .null, .null, .null, .int 0, .null, .null, .null])), (q1, zc K4 0 8), (q2, zc K4 0 8), (q3, zc K4 2 8), (q4, zc K4 0 160), (q5, zc K4 0 160), (q6, zc K4 0 320), (q7, zc K4 0 320)]) rfl ?_
  refine G_putF hC ff_X9_29 (fun C T N h => by cases h; rfl) hin rfl rfl (Nat.le_of_ble_eq_true rfl) dX9_init_61 ?_
  refine G_eq (ws' := [(h0, .inr (9, [.int 0, .ref q1, .ref q2, .ref q3, .ref q4, .ref q5, .ref q6, .ref q7, .null, .null, .null, .null, .null, .null, .null, .null, .null, .null, .null, .null, .null, .null, .null, .null, .null, .null, .null, .int 0, .int 0, .int 0, .int 0, .null, .null, .null, .int 0, .null, .null, .null, .null, .null, .null, .null, .null, .int 0, .null, .null, .null, .int 0, .null, .null, .null, .null, .int 0, .null, .null, .null])), (q1, zc K4 0 8), (q2, zc K4 0 8), (q3, zc K4 2 8), (q4, zc K4 0 160), (q5, zc K4 0 160), (q6, zc K4 0 320), (q7, zc K4 0 320)]) rfl ?_
  refine G_aload_n hC 0 dX9_init_64 rfl ?_
  refine G_sipush (v := 320) hC dX9_init_65 (by decide) ?_
  refine G_newI (N' := 320) hC ac_I (by decide) (by decide) (by decide) ⟨Nat.le_of_ble_eq_true rfl, Nat.le_of_ble_eq_true rfl⟩ dX9_init_68 (fun q8 => ?_)
  refine G_eq (ws' := [(h0, .inr (9, [.int 0, .ref q1, .ref q2, .ref q3, .ref q4, .ref q5, .ref q6, .ref q7, .null, .null, .null, .null, .null, .null, .null, .null, .null, .null, .null, .null, .null, .null, .null, .null, .null, .null, .null, .int 0, .int 0, .int 0, .int 0, .null, .null, .null, .int 0, .null, .null, .null, .null, .null, .null, .null, .null, .int 0, .null, .null, .null, .int 0, .null, .null, .null, .null, .int 0, .null, .null, .null])), (q1, zc K4 0 8), (q2, zc K4 0 8), (q3, zc K4 2 8), (q4, zc K4 0 160), (q5, zc K4 0 160), (q6, zc K4 0 320), (q7, zc K4 0 320), (q8, zc K4 0 320)]) rfl ?_
  refine G_putF hC ff_X9_32 (fun C T N h => by cases h; rfl) hin rfl rfl (Nat.le_of_ble_eq_true rfl) dX9_init_70 ?_
  refine G_eq (ws' := [(h0, .inr (9, [.int 0, .ref q1, .ref q2, .ref q3, .ref q4, .ref q5, .ref q6, .ref q7, .ref q8, .null, .null, .null, .null, .null, .null, .null, .null, .null, .null, .null, .null, .null, .null, .null, .null, .null, .null, .int 0, .int 0, .int 0, .int 0, .null, .null, .null, .int 0, .null, .null, .null, .null, .null, .null, .null, .null, .int 0, .null, .null, .null, .int 0, .null, .null, .null, .null, .int 0, .null, .null, .null])), (q1, zc K4 0 8), (q2, zc K4 0 8), (q3, zc K4 2 8), (q4, zc K4 0 160), (q5, zc K4 0 160), (q6, zc K4 0 320), (q7, zc K4 0 320), (q8, zc K4 0 320)]) rfl ?_
  refine G_aload_n hC 0 dX9_init_73 rfl ?_
  refine G_sipush (v := 320) hC dX9_init_74 (by decide) ?_
  refine G_newZ (N' := 320) hC ac_Z (by decide) (by decide) (by decide) ⟨Nat.le_of_ble_eq_true rfl, Nat.le_of_ble_eq_true rfl⟩ dX9_init_77 (fun q9 => ?_)
  refine G_eq (ws' := [(h0, .inr (9, [.int 0, .ref q1, .ref q2, .ref q3, .ref q4, .ref q5, .ref q6, .ref q7, .ref q8, .null, .null, .null, .null, .null, .null, .null, .null, .null, .null, .null, .null, .null, .null, .null, .null, .null, .null, .int 0, .int 0, .int 0, .int 0, .null, .null, .null, .int 0, .null, .null, .null, .null, .null, .null, .null, .null, .int 0, .null, .null, .null, .int 0, .null, .null, .null, .null, .int 0, .null, .null, .null])), (q1, zc K4 0 8), (q2, zc K4 0 8), (q3, zc K4 2 8), (q4, zc K4 0 160), (q5, zc K4 0 160), (q6, zc K4 0 320), (q7, zc K4 0 320), (q8, zc K4 0 320), (q9, zc K4 2 320)]) rfl ?_
  refine G_putF hC ff_X9_35 (fun C T N h => by cases h; rfl) hin rfl rfl (Nat.le_of_ble_eq_true rfl) dX9_init_79 ?_
  refine G_eq (ws' := [(h0, .inr (9, [.int 0, .ref q1, .ref q2, .ref q3, .ref q4, .ref q5, .ref q6, .ref q7, .ref q8, .ref q9, .null, .null, .null, .null, .null, .null, .null, .null, .null, .null, .null, .null, .null, .null, .null, .null, .null, .int 0, .int 0, .int 0, .int 0, .null, .null, .null, .int 0, .null, .null, .null, .null, .null, .null, .null, .null, .int 0, .null, .null, .null, .int 0, .null, .null, .null, .null, .int 0, .null, .null, .null])), (q1, zc K4 0 8), (q2, zc K4 0 8), (q3, zc K4 2 8), (q4, zc K4 0 160), (q5, zc K4 0 160), (q6, zc K4 0 320), (q7, zc K4 0 320), (q8, zc K4 0 320), (q9, zc K4 2 320)]) rfl ?_
  refine G_aload_n hC 0 dX9_init_82 rfl ?_
  refine G_sipush (v := 320) hC dX9_init_83 (by decide) ?_
  refine G_newI (N' := 320) hC ac_I (by decide) (by decide) (by decide) ⟨Nat.le_of_ble_eq_true rfl, Nat.le_of_ble_eq_true rfl⟩ dX9_init_86 (fun q10 => ?_)
  refine G_eq (ws' := [(h0, .inr (9, [.int 0, .ref q1, .ref q2, .ref q3, .ref q4, .ref q5, .ref q6, .ref q7, .ref q8, .ref q9, .null, .null, .null, .null, .null, .null, .null, .null, .null, .null, .null, .null, .null, .null, .null, .null, .null, .int 0, .int 0, .int 0, .int 0, .null, .null, .null, .int 0, .null, .null, .null, .null, .null, .null, .null, .null, .int 0, .null, .null, .null, .int 0, .null, .null, .null, .null, .int 0, .null, .null, .null])), (q1, zc K4 0 8), (q2, zc K4 0 8), (q3, zc K4 2 8), (q4, zc K4 0 160), (q5, zc K4 0 160), (q6, zc K4 0 320), (q7, zc K4 0 320), (q8, zc K4 0 320), (q9, zc K4 2 320), (q10, zc K4 0 320)]) rfl ?_
  refine G_putF hC ff_X9_38 (fun C T N h => by cases h; rfl) hin rfl rfl (Nat.le_of_ble_eq_true rfl) dX9_init_88 ?_
  refine G_eq (ws' := [(h0, .inr (9, [.int 0, .ref q1, .ref q2, .ref q3, .ref q4, .ref q5, .ref q6, .ref q7, .ref q8, .ref q9, .ref q10, .null, .null, .null, .null, .null, .null, .null, .null, .null, .null, .null, .null, .null, .null, .null, .null, .int 0, .int 0, .int 0, .int 0, .null, .null, .null, .int 0, .null, .null, .null, .null, .null, .null, .null, .null, .int 0, .null, .null, .null, .int 0, .null, .null, .null, .null, .int 0, .null, .null, .null])), (q1, zc K4 0 8), (q2, zc K4 0 8), (q3, zc K4 2 8), (q4, zc K4 0 160), (q5, zc K4 0 160), (q6, zc K4 0 320), (q7, zc K4 0 320), (q8, zc K4 0 320), (q9, zc K4 2 320), (q10, zc K4 0 320)]) rfl ?_
  refine G_aload_n hC 0 dX9_init_91 rfl ?_
  refine G_sipush (v := 320) hC dX9_init_92 (by decide) ?_
  refine G_newZ (N' := 320) hC ac_Z (by decide) (by decide) (by decide) ⟨Nat.le_of_ble_eq_true rfl, Nat.le_of_ble_eq_true rfl⟩ dX9_init_95 (fun q11 => ?_)
  refine G_eq (ws' := [(h0, .inr (9, [.int 0, .ref q1, .ref q2, .ref q3, .ref q4, .ref q5, .ref q6, .ref q7, .ref q8, .ref q9, .ref q10, .null, .null, .null, .null, .null, .null, .null, .null, .null, .null, .null, .null, .null, .null, .null, .null, .int 0, .int 0, .int 0, .int 0, .null, .null, .null, .int 0, .null, .null, .null, .null, .null, .null, .null, .null, .int 0, .null, .null, .null, .int 0, .null, .null, .null, .null, .int 0, .null, .null, .null])), (q1, zc K4 0 8), (q2, zc K4 0 8), (q3, zc K4 2 8), (q4, zc K4 0 160), (q5, zc K4 0 160), (q6, zc K4 0 320), (q7, zc K4 0 320), (q8, zc K4 0 320), (q9, zc K4 2 320), (q10, zc K4 0 320), (q11, zc K4 2 320)]) rfl ?_
  refine G_putF hC ff_X9_41 (fun C T N h => by cases h; rfl) hin rfl rfl (Nat.le_of_ble_eq_true rfl) dX9_init_97 ?_
  refine G_eq (ws' := [(h0, .inr (9, [.int 0, .ref q1, .ref q2, .ref q3, .ref q4, .ref q5, .ref q6, .ref q7, .ref q8, .ref q9, .ref q10, .ref q11, .null, .null, .null, .null, .null, .null, .null, .null, .null, .null, .null, .null, .null, .null, .null, .int 0, .int 0, .int 0, .int 0, .null, .null, .null, .int 0, .null, .null, .null, .null, .null, .null, .null, .null, .int 0, .null, .null, .null, .int 0, .null, .null, .null, .null, .int 0, .null, .null, .null])), (q1, zc K4 0 8), (q2, zc K4 0 8), (q3, zc K4 2 8), (q4, zc K4 0 160), (q5, zc K4 0 160), (q6, zc K4 0 320), (q7, zc K4 0 320), (q8, zc K4 0 320), (q9, zc K4 2 320), (q10, zc K4 0 320), (q11, zc K4 2 320)]) rfl ?_
  refine G_aload_n hC 0 dX9_init_100 rfl ?_
  refine G_bipush (v := 8) hC dX9_init_101 (by decide) ?_
  refine G_newJ (N' := 8) hC ac_J (by decide) (by decide) (by decide) ⟨Nat.le_of_ble_eq_true rfl, Nat.le_of_ble_eq_true rfl⟩ dX9_init_103 (fun q12 => ?_)
  refine G_eq (ws' := [(h0, .inr (9, [.int 0, .ref q1, .ref q2, .ref q3, .ref q4, .ref q5, .ref q6, .ref q7, .ref q8, .ref q9, .ref q10, .ref q11, .null, .null, .null, .null, .null, .null, .null, .null, .null, .null, .null, .null, .null, .null, .null, .int 0, .int 0, .int 0, .int 0, .null, .null, .null, .int 0, .null, .null, .null, .null, .null, .null, .null, .null, .int 0, .null, .null, .null, .int 0, .null, .null, .null, .null, .int 0, .null, .null, .null])), (q1, zc K4 0 8), (q2, zc K4 0 8), (q3, zc K4 2 8), (q4, zc K4 0 160), (q5, zc K4 0 160), (q6, zc K4 0 320), (q7, zc K4 0 320), (q8, zc K4 0 320), (q9, zc K4 2 320), (q10, zc K4 0 320), (q11, zc K4 2 320), (q12, zc K4 1 8)]) rfl ?_
  refine G_putF hC ff_X9_44 (fun C T N h => by cases h; rfl) hin rfl rfl (Nat.le_of_ble_eq_true rfl) dX9_init_105 ?_
  refine G_eq (ws' := [(h0, .inr (9, [.int 0, .ref q1, .ref q2, .ref q3, .ref q4, .ref q5, .ref q6, .ref q7, .ref q8, .ref q9, .ref q10, .ref q11, .ref q12, .null, .null, .null, .null, .null, .null, .null, .null, .null, .null, .null, .null, .null, .null, .int 0, .int 0, .int 0, .int 0, .null, .null, .null, .int 0, .null, .null, .null, .null, .null, .null, .null, .null, .int 0, .null, .null, .null, .int 0, .null, .null, .null, .null, .int 0, .null, .null, .null])), (q1, zc K4 0 8), (q2, zc K4 0 8), (q3, zc K4 2 8), (q4, zc K4 0 160), (q5, zc K4 0 160), (q6, zc K4 0 320), (q7, zc K4 0 320), (q8, zc K4 0 320), (q9, zc K4 2 320), (q10, zc K4 0 320), (q11, zc K4 2 320), (q12, zc K4 1 8)]) rfl ?_
  refine G_aload_n hC 0 dX9_init_108 rfl ?_
  refine G_bipush (v := 8) hC dX9_init_109 (by decide) ?_
  refine G_newI (N' := 8) hC ac_I (by decide) (by decide) (by decide) ⟨Nat.le_of_ble_eq_true rfl, Nat.le_of_ble_eq_true rfl⟩ dX9_init_111 (fun q13 => ?_)
  refine G_eq (ws' := [(h0, .inr (9, [.int 0, .ref q1, .ref q2, .ref q3, .ref q4, .ref q5, .ref q6, .ref q7, .ref q8, .ref q9, .ref q10, .ref q11, .ref q12, .null, .null, .null, .null, .null, .null, .null, .null, .null, .null, .null, .null, .null, .null, .int 0, .int 0, .int 0, .int 0, .null, .null, .null, .int 0, .null, .null, .null, .null, .null, .null, .null, .null, .int 0, .null, .null, .null, .int 0, .null, .null, .null, .null, .int 0, .null, .null, .null])), (q1, zc K4 0 8), (q2, zc K4 0 8), (q3, zc K4 2 8), (q4, zc K4 0 160), (q5, zc K4 0 160), (q6, zc K4 0 320), (q7, zc K4 0 320), (q8, zc K4 0 320), (q9, zc K4 2 320), (q10, zc K4 0 320), (q11, zc K4 2 320), (q12, zc K4 1 8), (q13, zc K4 0 8)]) rfl ?_
  refine G_putF hC ff_X9_48 (fun C T N h => by cases h; rfl) hin rfl rfl (Nat.le_of_ble_eq_true rfl) dX9_init_113 ?_
  refine G_eq (ws' := [(h0, .inr (9, [.int 0, .ref q1, .ref q2, .ref q3, .ref q4, .ref q5, .ref q6, .ref q7, .ref q8, .ref q9, .ref q10, .ref q11, .ref q12, .ref q13, .null, .null, .null, .null, .null, .null, .null, .null, .null, .null, .null, .null, .null, .int 0, .int 0, .int 0, .int 0, .null, .null, .null, .int 0, .null, .null, .null, .null, .null, .null, .null, .null, .int 0, .null, .null, .null, .int 0, .null, .null, .null, .null, .int 0, .null, .null, .null])), (q1, zc K4 0 8), (q2, zc K4 0 8), (q3, zc K4 2 8), (q4, zc K4 0 160), (q5, zc K4 0 160), (q6, zc K4 0 320), (q7, zc K4 0 320), (q8, zc K4 0 320), (q9, zc K4 2 320), (q10, zc K4 0 320), (q11, zc K4 2 320), (q12, zc K4 1 8), (q13, zc K4 0 8)]) rfl ?_
  refine G_aload_n hC 0 dX9_init_116 rfl ?_
  refine G_bipush (v := 8) hC dX9_init_117 (by decide) ?_
  refine G_newJ (N' := 8) hC ac_J (by decide) (by decide) (by decide) ⟨Nat.le_of_ble_eq_true rfl, Nat.le_of_ble_eq_true rfl⟩ dX9_init_119 (fun q14 => ?_)
  refine G_eq (ws' := [(h0, .inr (9, [.int 0, .ref q1, .ref q2, .ref q3, .ref q4, .ref q5, .ref q6, .ref q7, .ref q8, .ref q9, .ref q10, .ref q11, .ref q12, .ref q13, .null, .null, .null, .null, .null, .null, .null, .null, .null, .null, .null, .null, .null, .int 0, .int 0, .int 0, .int 0, .null, .null, .null, .int 0, .null, .null, .null, .null, .null, .null, .null, .null, .int 0, .null, .null, .null, .int 0, .null, .null, .null, .null, .int 0, .null, .null, .null])), (q1, zc K4 0 8), (q2, zc K4 0 8), (q3, zc K4 2 8), (q4, zc K4 0 160), (q5, zc K4 0 160), (q6, zc K4 0 320), (q7, zc K4 0 320), (q8, zc K4 0 320), (q9, zc K4 2 320), (q10, zc K4 0 320), (q11, zc K4 2 320), (q12, zc K4 1 8), (q13, zc K4 0 8), (q14, zc K4 1 8)]) rfl ?_
  refine G_putF hC ff_X9_51 (fun C T N h => by cases h; rfl) hin rfl rfl (Nat.le_of_ble_eq_true rfl) dX9_init_121 ?_
  refine G_eq (ws' := [(h0, .inr (9, [.int 0, .ref q1, .ref q2, .ref q3, .ref q4, .ref q5, .ref q6, .ref q7, .ref q8, .ref q9, .ref q10, .ref q11, .ref q12, .ref q13, .ref q14, .null, .null, .null, .null, .null, .null, .null, .null, .null, .null, .null, .null, .int 0, .int 0, .int 0, .int 0, .null, .null, .null, .int 0, .null, .null, .null, .null, .null, .null, .null, .null, .int 0, .null, .null, .null, .int 0, .null, .null, .null, .null, .int 0, .null, .null, .null])), (q1, zc K4 0 8), (q2, zc K4 0 8), (q3, zc K4 2 8), (q4, zc K4 0 160), (q5, zc K4 0 160), (q6, zc K4 0 320), (q7, zc K4 0 320), (q8, zc K4 0 320), (q9, zc K4 2 320), (q10, zc K4 0 320), (q11, zc K4 2 320), (q12, zc K4 1 8), (q13, zc K4 0 8), (q14, zc K4 1 8)]) rfl ?_
  refine G_aload_n hC 0 dX9_init_124 rfl ?_
  refine G_sipush (v := 160) hC dX9_init_125 (by decide) ?_
  refine G_newJ (N' := 160) hC ac_J (by decide) (by decide) (by decide) ⟨Nat.le_of_ble_eq_true rfl, Nat.le_of_ble_eq_true rfl⟩ dX9_init_128 (fun q15 => ?_)
  refine G_eq (ws' := [(h0, .inr (9, [.int 0, .ref q1, .ref q2, .ref q3, .ref q4, .ref q5, .ref q6, .ref q7, .ref q8, .ref q9, .ref q10, .ref q11, .ref q12, .ref q13, .ref q14, .null, .null, .null, .null, .null, .null, .null, .null, .null, .null, .null, .null, .int 0, .int 0, .int 0, .int 0, .null, .null, .null, .int 0, .null, .null, .null, .null, .null, .null, .null, .null, .int 0, .null, .null, .null, .int 0, .null, .null, .null, .null, .int 0, .null, .null, .null])), (q1, zc K4 0 8), (q2, zc K4 0 8), (q3, zc K4 2 8), (q4, zc K4 0 160), (q5, zc K4 0 160), (q6, zc K4 0 320), (q7, zc K4 0 320), (q8, zc K4 0 320), (q9, zc K4 2 320), (q10, zc K4 0 320), (q11, zc K4 2 320), (q12, zc K4 1 8), (q13, zc K4 0 8), (q14, zc K4 1 8), (q15, zc K4 1 160)]) rfl ?_
  refine G_putF hC ff_X9_54 (fun C T N h => by cases h; rfl) hin rfl rfl (Nat.le_of_ble_eq_true rfl) dX9_init_130 ?_
  refine G_eq (ws' := [(h0, .inr (9, [.int 0, .ref q1, .ref q2, .ref q3, .ref q4, .ref q5, .ref q6, .ref q7, .ref q8, .ref q9, .ref q10, .ref q11, .ref q12, .ref q13, .ref q14, .ref q15, .null, .null, .null, .null, .null, .null, .null, .null, .null, .null, .null, .int 0, .int 0, .int 0, .int 0, .null, .null, .null, .int 0, .null, .null, .null, .null, .null, .null, .null, .null, .int 0, .null, .null, .null, .int 0, .null, .null, .null, .null, .int 0, .null, .null, .null])), (q1, zc K4 0 8), (q2, zc K4 0 8), (q3, zc K4 2 8), (q4, zc K4 0 160), (q5, zc K4 0 160), (q6, zc K4 0 320), (q7, zc K4 0 320), (q8, zc K4 0 320), (q9, zc K4 2 320), (q10, zc K4 0 320), (q11, zc K4 2 320), (q12, zc K4 1 8), (q13, zc K4 0 8), (q14, zc K4 1 8), (q15, zc K4 1 160)]) rfl ?_
  refine G_aload_n hC 0 dX9_init_133 rfl ?_
  refine G_sipush (v := 160) hC dX9_init_134 (by decide) ?_
  refine G_newJ (N' := 160) hC ac_J (by decide) (by decide) (by decide) ⟨Nat.le_of_ble_eq_true rfl, Nat.le_of_ble_eq_true rfl⟩ dX9_init_137 (fun q16 => ?_)
  refine G_eq (ws' := [(h0, .inr (9, [.int 0, .ref q1, .ref q2, .ref q3, .ref q4, .ref q5, .ref q6, .ref q7, .ref q8, .ref q9, .ref q10, .ref q11, .ref q12, .ref q13, .ref q14, .ref q15, .null, .null, .null, .null, .null, .null, .null, .null, .null, .null, .null, .int 0, .int 0, .int 0, .int 0, .null, .null, .null, .int 0, .null, .null, .null, .null, .null, .null, .null, .null, .int 0, .null, .null, .null, .int 0, .null, .null, .null, .null, .int 0, .null, .null, .null])), (q1, zc K4 0 8), (q2, zc K4 0 8), (q3, zc K4 2 8), (q4, zc K4 0 160), (q5, zc K4 0 160), (q6, zc K4 0 320), (q7, zc K4 0 320), (q8, zc K4 0 320), (q9, zc K4 2 320), (q10, zc K4 0 320), (q11, zc K4 2 320), (q12, zc K4 1 8), (q13, zc K4 0 8), (q14, zc K4 1 8), (q15, zc K4 1 160), (q16, zc K4 1 160)]) rfl ?_
  refine G_putF hC ff_X9_57 (fun C T N h => by cases h; rfl) hin rfl rfl (Nat.le_of_ble_eq_true rfl) dX9_init_139 ?_
  refine G_eq (ws' := [(h0, .inr (9, [.int 0, .ref q1, .ref q2, .ref q3, .ref q4, .ref q5, .ref q6, .ref q7, .ref q8, .ref q9, .ref q10, .ref q11, .ref q12, .ref q13, .ref q14, .ref q15, .ref q16, .null, .null, .null, .null, .null, .null, .null, .null, .null, .null, .int 0, .int 0, .int 0, .int 0, .null, .null, .null, .int 0, .null, .null, .null, .null, .null, .null, .null, .null, .int 0, .null, .null, .null, .int 0, .null, .null, .null, .null, .int 0, .null, .null, .null])), (q1, zc K4 0 8), (q2, zc K4 0 8), (q3, zc K4 2 8), (q4, zc K4 0 160), (q5, zc K4 0 160), (q6, zc K4 0 320), (q7, zc K4 0 320), (q8, zc K4 0 320), (q9, zc K4 2 320), (q10, zc K4 0 320), (q11, zc K4 2 320), (q12, zc K4 1 8), (q13, zc K4 0 8), (q14, zc K4 1 8), (q15, zc K4 1 160), (q16, zc K4 1 160)]) rfl ?_
  refine G_aload_n hC 0 dX9_init_142 rfl ?_
  refine G_sipush (v := 320) hC dX9_init_143 (by decide) ?_
  refine G_newJ (N' := 320) hC ac_J (by decide) (by decide) (by decide) ⟨Nat.le_of_ble_eq_true rfl, Nat.le_of_ble_eq_true rfl⟩ dX9_init_146 (fun q17 => ?_)
  refine G_eq (ws' := [(h0, .inr (9, [.int 0, .ref q1, .ref q2, .ref q3, .ref q4, .ref q5, .ref q6, .ref q7, .ref q8, .ref q9, .ref q10, .ref q11, .ref q12, .ref q13, .ref q14, .ref q15, .ref q16, .null, .null, .null, .null, .null, .null, .null, .null, .null, .null, .int 0, .int 0, .int 0, .int 0, .null, .null, .null, .int 0, .null, .null, .null, .null, .null, .null, .null, .null, .int 0, .null, .null, .null, .int 0, .null, .null, .null, .null, .int 0, .null, .null, .null])), (q1, zc K4 0 8), (q2, zc K4 0 8), (q3, zc K4 2 8), (q4, zc K4 0 160), (q5, zc K4 0 160), (q6, zc K4 0 320), (q7, zc K4 0 320), (q8, zc K4 0 320), (q9, zc K4 2 320), (q10, zc K4 0 320), (q11, zc K4 2 320), (q12, zc K4 1 8), (q13, zc K4 0 8), (q14, zc K4 1 8), (q15, zc K4 1 160), (q16, zc K4 1 160), (q17, zc K4 1 320)]) rfl ?_
  refine G_putF hC ff_X9_60 (fun C T N h => by cases h; rfl) hin rfl rfl (Nat.le_of_ble_eq_true rfl) dX9_init_148 ?_
  refine G_eq (ws' := [(h0, .inr (9, [.int 0, .ref q1, .ref q2, .ref q3, .ref q4, .ref q5, .ref q6, .ref q7, .ref q8, .ref q9, .ref q10, .ref q11, .ref q12, .ref q13, .ref q14, .ref q15, .ref q16, .ref q17, .null, .null, .null, .null, .null, .null, .null, .null, .null, .int 0, .int 0, .int 0, .int 0, .null, .null, .null, .int 0, .null, .null, .null, .null, .null, .null, .null, .null, .int 0, .null, .null, .null, .int 0, .null, .null, .null, .null, .int 0, .null, .null, .null])), (q1, zc K4 0 8), (q2, zc K4 0 8), (q3, zc K4 2 8), (q4, zc K4 0 160), (q5, zc K4 0 160), (q6, zc K4 0 320), (q7, zc K4 0 320), (q8, zc K4 0 320), (q9, zc K4 2 320), (q10, zc K4 0 320), (q11, zc K4 2 320), (q12, zc K4 1 8), (q13, zc K4 0 8), (q14, zc K4 1 8), (q15, zc K4 1 160), (q16, zc K4 1 160), (q17, zc K4 1 320)]) rfl ?_
  refine G_aload_n hC 0 dX9_init_151 rfl ?_
  refine G_sipush (v := 160) hC dX9_init_152 (by decide) ?_
  refine G_newJ (N' := 160) hC ac_J (by decide) (by decide) (by decide) ⟨Nat.le_of_ble_eq_true rfl, Nat.le_of_ble_eq_true rfl⟩ dX9_init_155 (fun q18 => ?_)
  refine G_eq (ws' := [(h0, .inr (9, [.int 0, .ref q1, .ref q2, .ref q3, .ref q4, .ref q5, .ref q6, .ref q7, .ref q8, .ref q9, .ref q10, .ref q11, .ref q12, .ref q13, .ref q14, .ref q15, .ref q16, .ref q17, .null, .null, .null, .null, .null, .null, .null, .null, .null, .int 0, .int 0, .int 0, .int 0, .null, .null, .null, .int 0, .null, .null, .null, .null, .null, .null, .null, .null, .int 0, .null, .null, .null, .int 0, .null, .null, .null, .null, .int 0, .null, .null, .null])), (q1, zc K4 0 8), (q2, zc K4 0 8), (q3, zc K4 2 8), (q4, zc K4 0 160), (q5, zc K4 0 160), (q6, zc K4 0 320), (q7, zc K4 0 320), (q8, zc K4 0 320), (q9, zc K4 2 320), (q10, zc K4 0 320), (q11, zc K4 2 320), (q12, zc K4 1 8), (q13, zc K4 0 8), (q14, zc K4 1 8), (q15, zc K4 1 160), (q16, zc K4 1 160), (q17, zc K4 1 320), (q18, zc K4 1 160)]) rfl ?_
  refine G_putF hC ff_X9_63 (fun C T N h => by cases h; rfl) hin rfl rfl (Nat.le_of_ble_eq_true rfl) dX9_init_157 ?_
  refine G_eq (ws' := [(h0, .inr (9, [.int 0, .ref q1, .ref q2, .ref q3, .ref q4, .ref q5, .ref q6, .ref q7, .ref q8, .ref q9, .ref q10, .ref q11, .ref q12, .ref q13, .ref q14, .ref q15, .ref q16, .ref q17, .ref q18, .null, .null, .null, .null, .null, .null, .null, .null, .int 0, .int 0, .int 0, .int 0, .null, .null, .null, .int 0, .null, .null, .null, .null, .null, .null, .null, .null, .int 0, .null, .null, .null, .int 0, .null, .null, .null, .null, .int 0, .null, .null, .null])), (q1, zc K4 0 8), (q2, zc K4 0 8), (q3, zc K4 2 8), (q4, zc K4 0 160), (q5, zc K4 0 160), (q6, zc K4 0 320), (q7, zc K4 0 320), (q8, zc K4 0 320), (q9, zc K4 2 320), (q10, zc K4 0 320), (q11, zc K4 2 320), (q12, zc K4 1 8), (q13, zc K4 0 8), (q14, zc K4 1 8), (q15, zc K4 1 160), (q16, zc K4 1 160), (q17, zc K4 1 320), (q18, zc K4 1 160)]) rfl ?_
  refine G_aload_n hC 0 dX9_init_160 rfl ?_
  refine G_bipush (v := 8) hC dX9_init_161 (by decide) ?_
  refine G_newJ (N' := 8) hC ac_J (by decide) (by decide) (by decide) ⟨Nat.le_of_ble_eq_true rfl, Nat.le_of_ble_eq_true rfl⟩ dX9_init_163 (fun q19 => ?_)
  refine G_eq (ws' := [(h0, .inr (9, [.int 0, .ref q1, .ref q2, .ref q3, .ref q4, .ref q5, .ref q6, .ref q7, .ref q8, .ref q9, .ref q10, .ref q11, .ref q12, .ref q13, .ref q14, .ref q15, .ref q16, .ref q17, .ref q18, .null, .null, .null, .null, .null, .null, .null, .null, .int 0, .int 0, .int 0, .int 0, .null, .null, .null, .int 0, .null, .null, .null, .null, .null, .null, .null, .null, .int 0, .null, .null, .null, .int 0, .null, .null, .null, .null, .int 0, .null, .null, .null])), (q1, zc K4 0 8), (q2, zc K4 0 8), (q3, zc K4 2 8), (q4, zc K4 0 160), (q5, zc K4 0 160), (q6, zc K4 0 320), (q7, zc K4 0 320), (q8, zc K4 0 320), (q9, zc K4 2 320), (q10, zc K4 0 320), (q11, zc K4 2 320), (q12, zc K4 1 8), (q13, zc K4 0 8), (q14, zc K4 1 8), (q15, zc K4 1 160), (q16, zc K4 1 160), (q17, zc K4 1 320), (q18, zc K4 1 160), (q19, zc K4 1 8)]) rfl ?_
  refine G_putF hC ff_X9_66 (fun C T N h => by cases h; rfl) hin rfl rfl (Nat.le_of_ble_eq_true rfl) dX9_init_165 ?_
  refine G_eq (ws' := [(h0, .inr (9, [.int 0, .ref q1, .ref q2, .ref q3, .ref q4, .ref q5, .ref q6, .ref q7, .ref q8, .ref q9, .ref q10, .ref q11, .ref q12, .ref q13, .ref q14, .ref q15, .ref q16, .ref q17, .ref q18, .ref q19, .null, .null, .null, .null, .null, .null, .null, .int 0, .int 0, .int 0, .int 0, .null, .null, .null, .int 0, .null, .null, .null, .null, .null, .null, .null, .null, .int 0, .null, .null, .null, .int 0, .null, .null, .null, .null, .int 0, .null, .null, .null])), (q1, zc K4 0 8), (q2, zc K4 0 8), (q3, zc K4 2 8), (q4, zc K4 0 160), (q5, zc K4 0 160), (q6, zc K4 0 320), (q7, zc K4 0 320), (q8, zc K4 0 320), (q9, zc K4 2 320), (q10, zc K4 0 320), (q11, zc K4 2 320), (q12, zc K4 1 8), (q13, zc K4 0 8), (q14, zc K4 1 8), (q15, zc K4 1 160), (q16, zc K4 1 160), (q17, zc K4 1 320), (q18, zc K4 1 160), (q19, zc K4 1 8)]) rfl ?_
  refine G_aload_n hC 0 dX9_init_168 rfl ?_
  refine G_bipush (v := 8) hC dX9_init_169 (by decide) ?_
  refine G_newJ (N' := 8) hC ac_J (by decide) (by decide) (by decide) ⟨Nat.le_of_ble_eq_true rfl, Nat.le_of_ble_eq_true rfl⟩ dX9_init_171 (fun q20 => ?_)
  refine G_eq (ws' := [(h0, .inr (9, [.int 0, .ref q1, .ref q2, .ref q3, .ref q4, .ref q5, .ref q6, .ref q7, .ref q8, .ref q9, .ref q10, .ref q11, .ref q12, .ref q13, .ref q14, .ref q15, .ref q16, .ref q17, .ref q18, .ref q19, .null, .null, .null, .null, .null, .null, .null, .int 0, .int 0, .int 0, .int 0, .null, .null, .null, .int 0, .null, .null, .null, .null, .null, .null, .null, .null, .int 0, .null, .null, .null, .int 0, .null, .null, .null, .null, .int 0, .null, .null, .null])), (q1, zc K4 0 8), (q2, zc K4 0 8), (q3, zc K4 2 8), (q4, zc K4 0 160), (q5, zc K4 0 160), (q6, zc K4 0 320), (q7, zc K4 0 320), (q8, zc K4 0 320), (q9, zc K4 2 320), (q10, zc K4 0 320), (q11, zc K4 2 320), (q12, zc K4 1 8), (q13, zc K4 0 8), (q14, zc K4 1 8), (q15, zc K4 1 160), (q16, zc K4 1 160), (q17, zc K4 1 320), (q18, zc K4 1 160), (q19, zc K4 1 8), (q20, zc K4 1 8)]) rfl ?_
  refine G_putF hC ff_X9_69 (fun C T N h => by cases h; rfl) hin rfl rfl (Nat.le_of_ble_eq_true rfl) dX9_init_173 ?_
  refine G_eq (ws' := [(h0, .inr (9, [.int 0, .ref q1, .ref q2, .ref q3, .ref q4, .ref q5, .ref q6, .ref q7, .ref q8, .ref q9, .ref q10, .ref q11, .ref q12, .ref q13, .ref q14, .ref q15, .ref q16, .ref q17, .ref q18, .ref q19, .ref q20, .null, .null, .null, .null, .null, .null, .int 0, .int 0, .int 0, .int 0, .null, .null, .null, .int 0, .null, .null, .null, .null, .null, .null, .null, .null, .int 0, .null, .null, .null, .int 0, .null, .null, .null, .null, .int 0, .null, .null, .null])), (q1, zc K4 0 8), (q2, zc K4 0 8), (q3, zc K4 2 8), (q4, zc K4 0 160), (q5, zc K4 0 160), (q6, zc K4 0 320), (q7, zc K4 0 320), (q8, zc K4 0 320), (q9, zc K4 2 320), (q10, zc K4 0 320), (q11, zc K4 2 320), (q12, zc K4 1 8), (q13, zc K4 0 8), (q14, zc K4 1 8), (q15, zc K4 1 160), (q16, zc K4 1 160), (q17, zc K4 1 320), (q18, zc K4 1 160), (q19, zc K4 1 8), (q20, zc K4 1 8)]) rfl ?_
  refine G_aload_n hC 0 dX9_init_176 rfl ?_
  refine G_sipush (v := 160) hC dX9_init_177 (by decide) ?_
  refine G_newJ (N' := 160) hC ac_J (by decide) (by decide) (by decide) ⟨Nat.le_of_ble_eq_true rfl, Nat.le_of_ble_eq_true rfl⟩ dX9_init_180 (fun q21 => ?_)
  refine G_eq (ws' := [(h0, .inr (9, [.int 0, .ref q1, .ref q2, .ref q3, .ref q4, .ref q5, .ref q6, .ref q7, .ref q8, .ref q9, .ref q10, .ref q11, .ref q12, .ref q13, .ref q14, .ref q15, .ref q16, .ref q17, .ref q18, .ref q19, .ref q20, .null, .null, .null, .null, .null, .null, .int 0, .int 0, .int 0, .int 0, .null, .null, .null, .int 0, .null, .null, .null, .null, .null, .null, .null, .null, .int 0, .null, .null, .null, .int 0, .null, .null, .null, .null, .int 0, .null, .null, .null])), (q1, zc K4 0 8), (q2, zc K4 0 8), (q3, zc K4 2 8), (q4, zc K4 0 160), (q5, zc K4 0 160), (q6, zc K4 0 320), (q7, zc K4 0 320), (q8, zc K4 0 320), (q9, zc K4 2 320), (q10, zc K4 0 320), (q11, zc K4 2 320), (q12, zc K4 1 8), (q13, zc K4 0 8), (q14, zc K4 1 8), (q15, zc K4 1 160), (q16, zc K4 1 160), (q17, zc K4 1 320), (q18, zc K4 1 160), (q19, zc K4 1 8), (q20, zc K4 1 8), (q21, zc K4 1 160)]) rfl ?_
  refine G_putF hC ff_X9_72 (fun C T N h => by cases h; rfl) hin rfl rfl (Nat.le_of_ble_eq_true rfl) dX9_init_182 ?_
  refine G_eq (ws' := [(h0, .inr (9, [.int 0, .ref q1, .ref q2, .ref q3, .ref q4, .ref q5, .ref q6, .ref q7, .ref q8, .ref q9, .ref q10, .ref q11, .ref q12, .ref q13, .ref q14, .ref q15, .ref q16, .ref q17, .ref q18, .ref q19, .ref q20, .ref q21, .null, .null, .null, .null, .null, .int 0, .int 0, .int 0, .int 0, .null, .null, .null, .int 0, .null, .null, .null, .null, .null, .null, .null, .null, .int 0, .null, .null, .null, .int 0, .null, .null, .null, .null, .int 0, .null, .null, .null])), (q1, zc K4 0 8), (q2, zc K4 0 8), (q3, zc K4 2 8), (q4, zc K4 0 160), (q5, zc K4 0 160), (q6, zc K4 0 320), (q7, zc K4 0 320), (q8, zc K4 0 320), (q9, zc K4 2 320), (q10, zc K4 0 320), (q11, zc K4 2 320), (q12, zc K4 1 8), (q13, zc K4 0 8), (q14, zc K4 1 8), (q15, zc K4 1 160), (q16, zc K4 1 160), (q17, zc K4 1 320), (q18, zc K4 1 160), (q19, zc K4 1 8), (q20, zc K4 1 8), (q21, zc K4 1 160)]) rfl ?_
  refine G_aload_n hC 0 dX9_init_185 rfl ?_
  refine G_sipush (v := 320) hC dX9_init_186 (by decide) ?_
  refine G_newJ (N' := 320) hC ac_J (by decide) (by decide) (by decide) ⟨Nat.le_of_ble_eq_true rfl, Nat.le_of_ble_eq_true rfl⟩ dX9_init_189 (fun q22 => ?_)
  refine G_eq (ws' := [(h0, .inr (9, [.int 0, .ref q1, .ref q2, .ref q3, .ref q4, .ref q5, .ref q6, .ref q7, .ref q8, .ref q9, .ref q10, .ref q11, .ref q12, .ref q13, .ref q14, .ref q15, .ref q16, .ref q17, .ref q18, .ref q19, .ref q20, .ref q21, .null, .null, .null, .null, .null, .int 0, .int 0, .int 0, .int 0, .null, .null, .null, .int 0, .null, .null, .null, .null, .null, .null, .null, .null, .int 0, .null, .null, .null, .int 0, .null, .null, .null, .null, .int 0, .null, .null, .null])), (q1, zc K4 0 8), (q2, zc K4 0 8), (q3, zc K4 2 8), (q4, zc K4 0 160), (q5, zc K4 0 160), (q6, zc K4 0 320), (q7, zc K4 0 320), (q8, zc K4 0 320), (q9, zc K4 2 320), (q10, zc K4 0 320), (q11, zc K4 2 320), (q12, zc K4 1 8), (q13, zc K4 0 8), (q14, zc K4 1 8), (q15, zc K4 1 160), (q16, zc K4 1 160), (q17, zc K4 1 320), (q18, zc K4 1 160), (q19, zc K4 1 8), (q20, zc K4 1 8), (q21, zc K4 1 160), (q22, zc K4 1 320)]) rfl ?_
  refine G_putF hC ff_X9_75 (fun C T N h => by cases h; rfl) hin rfl rfl (Nat.le_of_ble_eq_true rfl) dX9_init_191 ?_
  refine G_eq (ws' := [(h0, .inr (9, [.int 0, .ref q1, .ref q2, .ref q3, .ref q4, .ref q5, .ref q6, .ref q7, .ref q8, .ref q9, .ref q10, .ref q11, .ref q12, .ref q13, .ref q14, .ref q15, .ref q16, .ref q17, .ref q18, .ref q19, .ref q20, .ref q21, .ref q22, .null, .null, .null, .null, .int 0, .int 0, .int 0, .int 0, .null, .null, .null, .int 0, .null, .null, .null, .null, .null, .null, .null, .null, .int 0, .null, .null, .null, .int 0, .null, .null, .null, .null, .int 0, .null, .null, .null])), (q1, zc K4 0 8), (q2, zc K4 0 8), (q3, zc K4 2 8), (q4, zc K4 0 160), (q5, zc K4 0 160), (q6, zc K4 0 320), (q7, zc K4 0 320), (q8, zc K4 0 320), (q9, zc K4 2 320), (q10, zc K4 0 320), (q11, zc K4 2 320), (q12, zc K4 1 8), (q13, zc K4 0 8), (q14, zc K4 1 8), (q15, zc K4 1 160), (q16, zc K4 1 160), (q17, zc K4 1 320), (q18, zc K4 1 160), (q19, zc K4 1 8), (q20, zc K4 1 8), (q21, zc K4 1 160), (q22, zc K4 1 320)]) rfl ?_
  refine G_aload_n hC 0 dX9_init_194 rfl ?_
  refine G_sipush (v := 320) hC dX9_init_195 (by decide) ?_
  refine G_newJ (N' := 320) hC ac_J (by decide) (by decide) (by decide) ⟨Nat.le_of_ble_eq_true rfl, Nat.le_of_ble_eq_true rfl⟩ dX9_init_198 (fun q23 => ?_)
  refine G_eq (ws' := [(h0, .inr (9, [.int 0, .ref q1, .ref q2, .ref q3, .ref q4, .ref q5, .ref q6, .ref q7, .ref q8, .ref q9, .ref q10, .ref q11, .ref q12, .ref q13, .ref q14, .ref q15, .ref q16, .ref q17, .ref q18, .ref q19, .ref q20, .ref q21, .ref q22, .null, .null, .null, .null, .int 0, .int 0, .int 0, .int 0, .null, .null, .null, .int 0, .null, .null, .null, .null, .null, .null, .null, .null, .int 0, .null, .null, .null, .int 0, .null, .null, .null, .null, .int 0, .null, .null, .null])), (q1, zc K4 0 8), (q2, zc K4 0 8), (q3, zc K4 2 8), (q4, zc K4 0 160), (q5, zc K4 0 160), (q6, zc K4 0 320), (q7, zc K4 0 320), (q8, zc K4 0 320), (q9, zc K4 2 320), (q10, zc K4 0 320), (q11, zc K4 2 320), (q12, zc K4 1 8), (q13, zc K4 0 8), (q14, zc K4 1 8), (q15, zc K4 1 160), (q16, zc K4 1 160), (q17, zc K4 1 320), (q18, zc K4 1 160), (q19, zc K4 1 8), (q20, zc K4 1 8), (q21, zc K4 1 160), (q22, zc K4 1 320), (q23, zc K4 1 320)]) rfl ?_
  refine G_putF hC ff_X9_78 (fun C T N h => by cases h; rfl) hin rfl rfl (Nat.le_of_ble_eq_true rfl) dX9_init_200 ?_
  refine G_eq (ws' := [(h0, .inr (9, [.int 0, .ref q1, .ref q2, .ref q3, .ref q4, .ref q5, .ref q6, .ref q7, .ref q8, .ref q9, .ref q10, .ref q11, .ref q12, .ref q13, .ref q14, .ref q15, .ref q16, .ref q17, .ref q18, .ref q19, .ref q20, .ref q21, .ref q22, .ref q23, .null, .null, .null, .int 0, .int 0, .int 0, .int 0, .null, .null, .null, .int 0, .null, .null, .null, .null, .null, .null, .null, .null, .int 0, .null, .null, .null, .int 0, .null, .null, .null, .null, .int 0, .null, .null, .null])), (q1, zc K4 0 8), (q2, zc K4 0 8), (q3, zc K4 2 8), (q4, zc K4 0 160), (q5, zc K4 0 160), (q6, zc K4 0 320), (q7, zc K4 0 320), (q8, zc K4 0 320), (q9, zc K4 2 320), (q10, zc K4 0 320), (q11, zc K4 2 320), (q12, zc K4 1 8), (q13, zc K4 0 8), (q14, zc K4 1 8), (q15, zc K4 1 160), (q16, zc K4 1 160), (q17, zc K4 1 320), (q18, zc K4 1 160), (q19, zc K4 1 8), (q20, zc K4 1 8), (q21, zc K4 1 160), (q22, zc K4 1 320), (q23, zc K4 1 320)]) rfl ?_
  refine G_aload_n hC 0 dX9_init_203 rfl ?_
  refine G_bipush (v := 8) hC dX9_init_204 (by decide) ?_
  refine G_newI (N' := 8) hC ac_I (by decide) (by decide) (by decide) ⟨Nat.le_of_ble_eq_true rfl, Nat.le_of_ble_eq_true rfl⟩ dX9_init_206 (fun q24 => ?_)
  refine G_eq (ws' := [(h0, .inr (9, [.int 0, .ref q1, .ref q2, .ref q3, .ref q4, .ref q5, .ref q6, .ref q7, .ref q8, .ref q9, .ref q10, .ref q11, .ref q12, .ref q13, .ref q14, .ref q15, .ref q16, .ref q17, .ref q18, .ref q19, .ref q20, .ref q21, .ref q22, .ref q23, .null, .null, .null, .int 0, .int 0, .int 0, .int 0, .null, .null, .null, .int 0, .null, .null, .null, .null, .null, .null, .null, .null, .int 0, .null, .null, .null, .int 0, .null, .null, .null, .null, .int 0, .null, .null, .null])), (q1, zc K4 0 8), (q2, zc K4 0 8), (q3, zc K4 2 8), (q4, zc K4 0 160), (q5, zc K4 0 160), (q6, zc K4 0 320), (q7, zc K4 0 320), (q8, zc K4 0 320), (q9, zc K4 2 320), (q10, zc K4 0 320), (q11, zc K4 2 320), (q12, zc K4 1 8), (q13, zc K4 0 8), (q14, zc K4 1 8), (q15, zc K4 1 160), (q16, zc K4 1 160), (q17, zc K4 1 320), (q18, zc K4 1 160), (q19, zc K4 1 8), (q20, zc K4 1 8), (q21, zc K4 1 160), (q22, zc K4 1 320), (q23, zc K4 1 320), (q24, zc K4 0 8)]) rfl ?_
  refine G_putF hC ff_X9_81 (fun C T N h => by cases h; rfl) hin rfl rfl (Nat.le_of_ble_eq_true rfl) dX9_init_208 ?_
  refine G_eq (ws' := [(h0, .inr (9, [.int 0, .ref q1, .ref q2, .ref q3, .ref q4, .ref q5, .ref q6, .ref q7, .ref q8, .ref q9, .ref q10, .ref q11, .ref q12, .ref q13, .ref q14, .ref q15, .ref q16, .ref q17, .ref q18, .ref q19, .ref q20, .ref q21, .ref q22, .ref q23, .ref q24, .null, .null, .int 0, .int 0, .int 0, .int 0, .null, .null, .null, .int 0, .null, .null, .null, .null, .null, .null, .null, .null, .int 0, .null, .null, .null, .int 0, .null, .null, .null, .null, .int 0, .null, .null, .null])), (q1, zc K4 0 8), (q2, zc K4 0 8), (q3, zc K4 2 8), (q4, zc K4 0 160), (q5, zc K4 0 160), (q6, zc K4 0 320), (q7, zc K4 0 320), (q8, zc K4 0 320), (q9, zc K4 2 320), (q10, zc K4 0 320), (q11, zc K4 2 320), (q12, zc K4 1 8), (q13, zc K4 0 8), (q14, zc K4 1 8), (q15, zc K4 1 160), (q16, zc K4 1 160), (q17, zc K4 1 320), (q18, zc K4 1 160), (q19, zc K4 1 8), (q20, zc K4 1 8), (q21, zc K4 1 160), (q22, zc K4 1 320), (q23, zc K4 1 320), (q24, zc K4 0 8)]) rfl ?_
  refine G_aload_n hC 0 dX9_init_211 rfl ?_
  refine G_sipush (v := 128) hC dX9_init_212 (by decide) ?_
  refine G_newJ (N' := 128) hC ac_J (by decide) (by decide) (by decide) ⟨Nat.le_of_ble_eq_true rfl, Nat.le_of_ble_eq_true rfl⟩ dX9_init_215 (fun q25 => ?_)
  refine G_eq (ws' := [(h0, .inr (9, [.int 0, .ref q1, .ref q2, .ref q3, .ref q4, .ref q5, .ref q6, .ref q7, .ref q8, .ref q9, .ref q10, .ref q11, .ref q12, .ref q13, .ref q14, .ref q15, .ref q16, .ref q17, .ref q18, .ref q19, .ref q20, .ref q21, .ref q22, .ref q23, .ref q24, .null, .null, .int 0, .int 0, .int 0, .int 0, .null, .null, .null, .int 0, .null, .null, .null, .null, .null, .null, .null, .null, .int 0, .null, .null, .null, .int 0, .null, .null, .null, .null, .int 0, .null, .null, .null])), (q1, zc K4 0 8), (q2, zc K4 0 8), (q3, zc K4 2 8), (q4, zc K4 0 160), (q5, zc K4 0 160), (q6, zc K4 0 320), (q7, zc K4 0 320), (q8, zc K4 0 320), (q9, zc K4 2 320), (q10, zc K4 0 320), (q11, zc K4 2 320), (q12, zc K4 1 8), (q13, zc K4 0 8), (q14, zc K4 1 8), (q15, zc K4 1 160), (q16, zc K4 1 160), (q17, zc K4 1 320), (q18, zc K4 1 160), (q19, zc K4 1 8), (q20, zc K4 1 8), (q21, zc K4 1 160), (q22, zc K4 1 320), (q23, zc K4 1 320), (q24, zc K4 0 8), (q25, zc K4 1 128)]) rfl ?_
  refine G_putF hC ff_X9_84 (fun C T N h => by cases h; rfl) hin rfl rfl (Nat.le_of_ble_eq_true rfl) dX9_init_217 ?_
  refine G_eq (ws' := [(h0, .inr (9, [.int 0, .ref q1, .ref q2, .ref q3, .ref q4, .ref q5, .ref q6, .ref q7, .ref q8, .ref q9, .ref q10, .ref q11, .ref q12, .ref q13, .ref q14, .ref q15, .ref q16, .ref q17, .ref q18, .ref q19, .ref q20, .ref q21, .ref q22, .ref q23, .ref q24, .ref q25, .null, .int 0, .int 0, .int 0, .int 0, .null, .null, .null, .int 0, .null, .null, .null, .null, .null, .null, .null, .null, .int 0, .null, .null, .null, .int 0, .null, .null, .null, .null, .int 0, .null, .null, .null])), (q1, zc K4 0 8), (q2, zc K4 0 8), (q3, zc K4 2 8), (q4, zc K4 0 160), (q5, zc K4 0 160), (q6, zc K4 0 320), (q7, zc K4 0 320), (q8, zc K4 0 320), (q9, zc K4 2 320), (q10, zc K4 0 320), (q11, zc K4 2 320), (q12, zc K4 1 8), (q13, zc K4 0 8), (q14, zc K4 1 8), (q15, zc K4 1 160), (q16, zc K4 1 160), (q17, zc K4 1 320), (q18, zc K4 1 160), (q19, zc K4 1 8), (q20, zc K4 1 8), (q21, zc K4 1 160), (q22, zc K4 1 320), (q23, zc K4 1 320), (q24, zc K4 0 8), (q25, zc K4 1 128)]) rfl ?_
  refine G_aload_n hC 0 dX9_init_220 rfl ?_
  refine G_sipush (v := 128) hC dX9_init_221 (by decide) ?_
  refine G_newJ (N' := 128) hC ac_J (by decide) (by decide) (by decide) ⟨Nat.le_of_ble_eq_true rfl, Nat.le_of_ble_eq_true rfl⟩ dX9_init_224 (fun q26 => ?_)
  refine G_eq (ws' := [(h0, .inr (9, [.int 0, .ref q1, .ref q2, .ref q3, .ref q4, .ref q5, .ref q6, .ref q7, .ref q8, .ref q9, .ref q10, .ref q11, .ref q12, .ref q13, .ref q14, .ref q15, .ref q16, .ref q17, .ref q18, .ref q19, .ref q20, .ref q21, .ref q22, .ref q23, .ref q24, .ref q25, .null, .int 0, .int 0, .int 0, .int 0, .null, .null, .null, .int 0, .null, .null, .null, .null, .null, .null, .null, .null, .int 0, .null, .null, .null, .int 0, .null, .null, .null, .null, .int 0, .null, .null, .null])), (q1, zc K4 0 8), (q2, zc K4 0 8), (q3, zc K4 2 8), (q4, zc K4 0 160), (q5, zc K4 0 160), (q6, zc K4 0 320), (q7, zc K4 0 320), (q8, zc K4 0 320), (q9, zc K4 2 320), (q10, zc K4 0 320), (q11, zc K4 2 320), (q12, zc K4 1 8), (q13, zc K4 0 8), (q14, zc K4 1 8), (q15, zc K4 1 160), (q16, zc K4 1 160), (q17, zc K4 1 320), (q18, zc K4 1 160), (q19, zc K4 1 8), (q20, zc K4 1 8), (q21, zc K4 1 160), (q22, zc K4 1 320), (q23, zc K4 1 320), (q24, zc K4 0 8), (q25, zc K4 1 128), (q26, zc K4 1 128)]) rfl ?_
  refine G_putF hC ff_X9_87 (fun C T N h => by cases h; rfl) hin rfl rfl (Nat.le_of_ble_eq_true rfl) dX9_init_226 ?_
  refine G_eq (ws' := [(h0, .inr (9, [.int 0, .ref q1, .ref q2, .ref q3, .ref q4, .ref q5, .ref q6, .ref q7, .ref q8, .ref q9, .ref q10, .ref q11, .ref q12, .ref q13, .ref q14, .ref q15, .ref q16, .ref q17, .ref q18, .ref q19, .ref q20, .ref q21, .ref q22, .ref q23, .ref q24, .ref q25, .ref q26, .int 0, .int 0, .int 0, .int 0, .null, .null, .null, .int 0, .null, .null, .null, .null, .null, .null, .null, .null, .int 0, .null, .null, .null, .int 0, .null, .null, .null, .null, .int 0, .null, .null, .null])), (q1, zc K4 0 8), (q2, zc K4 0 8), (q3, zc K4 2 8), (q4, zc K4 0 160), (q5, zc K4 0 160), (q6, zc K4 0 320), (q7, zc K4 0 320), (q8, zc K4 0 320), (q9, zc K4 2 320), (q10, zc K4 0 320), (q11, zc K4 2 320), (q12, zc K4 1 8), (q13, zc K4 0 8), (q14, zc K4 1 8), (q15, zc K4 1 160), (q16, zc K4 1 160), (q17, zc K4 1 320), (q18, zc K4 1 160), (q19, zc K4 1 8), (q20, zc K4 1 8), (q21, zc K4 1 160), (q22, zc K4 1 320), (q23, zc K4 1 320), (q24, zc K4 0 8), (q25, zc K4 1 128), (q26, zc K4 1 128)]) rfl ?_
  refine G_aload_n hC 0 dX9_init_229 rfl ?_
  refine G_bipush (v := 30) hC dX9_init_230 (by decide) ?_
  refine G_newI (N' := 30) hC ac_I (by decide) (by decide) (by decide) ⟨Nat.le_of_ble_eq_true rfl, Nat.le_of_ble_eq_true rfl⟩ dX9_init_232 (fun q27 => ?_)
  refine G_eq (ws' := [(h0, .inr (9, [.int 0, .ref q1, .ref q2, .ref q3, .ref q4, .ref q5, .ref q6, .ref q7, .ref q8, .ref q9, .ref q10, .ref q11, .ref q12, .ref q13, .ref q14, .ref q15, .ref q16, .ref q17, .ref q18, .ref q19, .ref q20, .ref q21, .ref q22, .ref q23, .ref q24, .ref q25, .ref q26, .int 0, .int 0, .int 0, .int 0, .null, .null, .null, .int 0, .null, .null, .null, .null, .null, .null, .null, .null, .int 0, .null, .null, .null, .int 0, .null, .null, .null, .null, .int 0, .null, .null, .null])), (q1, zc K4 0 8), (q2, zc K4 0 8), (q3, zc K4 2 8), (q4, zc K4 0 160), (q5, zc K4 0 160), (q6, zc K4 0 320), (q7, zc K4 0 320), (q8, zc K4 0 320), (q9, zc K4 2 320), (q10, zc K4 0 320), (q11, zc K4 2 320), (q12, zc K4 1 8), (q13, zc K4 0 8), (q14, zc K4 1 8), (q15, zc K4 1 160), (q16, zc K4 1 160), (q17, zc K4 1 320), (q18, zc K4 1 160), (q19, zc K4 1 8), (q20, zc K4 1 8), (q21, zc K4 1 160), (q22, zc K4 1 320), (q23, zc K4 1 320), (q24, zc K4 0 8), (q25, zc K4 1 128), (q26, zc K4 1 128), (q27, zc K4 0 30)]) rfl ?_
  refine G_putF hC ff_X9_90 (fun C T N h => by cases h; rfl) hin rfl rfl (Nat.le_of_ble_eq_true rfl) dX9_init_234 ?_
  refine G_eq (ws' := [(h0, .inr (9, [.int 0, .ref q1, .ref q2, .ref q3, .ref q4, .ref q5, .ref q6, .ref q7, .ref q8, .ref q9, .ref q10, .ref q11, .ref q12, .ref q13, .ref q14, .ref q15, .ref q16, .ref q17, .ref q18, .ref q19, .ref q20, .ref q21, .ref q22, .ref q23, .ref q24, .ref q25, .ref q26, .int 0, .int 0, .int 0, .int 0, .ref q27, .null, .null, .int 0, .null, .null, .null, .null, .null, .null, .null, .null, .int 0, .null, .null, .null, .int 0, .null, .null, .null, .null, .int 0, .null, .null, .null])), (q1, zc K4 0 8), (q2, zc K4 0 8), (q3, zc K4 2 8), (q4, zc K4 0 160), (q5, zc K4 0 160), (q6, zc K4 0 320), (q7, zc K4 0 320), (q8, zc K4 0 320), (q9, zc K4 2 320), (q10, zc K4 0 320), (q11, zc K4 2 320), (q12, zc K4 1 8), (q13, zc K4 0 8), (q14, zc K4 1 8), (q15, zc K4 1 160), (q16, zc K4 1 160), (q17, zc K4 1 320), (q18, zc K4 1 160), (q19, zc K4 1 8), (q20, zc K4 1 8), (q21, zc K4 1 160), (q22, zc K4 1 320), (q23, zc K4 1 320), (q24, zc K4 0 8), (q25, zc K4 1 128), (q26, zc K4 1 128), (q27, zc K4 0 30)]) rfl ?_
  refine G_aload_n hC 0 dX9_init_237 rfl ?_
  refine G_bipush (v := 30) hC dX9_init_238 (by decide) ?_
  refine G_newI (N' := 30) hC ac_I (by decide) (by decide) (by decide) ⟨Nat.le_of_ble_eq_true rfl, Nat.le_of_ble_eq_true rfl⟩ dX9_init_240 (fun q28 => ?_)
  refine G_eq (ws' := [(h0, .inr (9, [.int 0, .ref q1, .ref q2, .ref q3, .ref q4, .ref q5, .ref q6, .ref q7, .ref q8, .ref q9, .ref q10, .ref q11, .ref q12, .ref q13, .ref q14, .ref q15, .ref q16, .ref q17, .ref q18, .ref q19, .ref q20, .ref q21, .ref q22, .ref q23, .ref q24, .ref q25, .ref q26, .int 0, .int 0, .int 0, .int 0, .ref q27, .null, .null, .int 0, .null, .null, .null, .null, .null, .null, .null, .null, .int 0, .null, .null, .null, .int 0, .null, .null, .null, .null, .int 0, .null, .null, .null])), (q1, zc K4 0 8), (q2, zc K4 0 8), (q3, zc K4 2 8), (q4, zc K4 0 160), (q5, zc K4 0 160), (q6, zc K4 0 320), (q7, zc K4 0 320), (q8, zc K4 0 320), (q9, zc K4 2 320), (q10, zc K4 0 320), (q11, zc K4 2 320), (q12, zc K4 1 8), (q13, zc K4 0 8), (q14, zc K4 1 8), (q15, zc K4 1 160), (q16, zc K4 1 160), (q17, zc K4 1 320), (q18, zc K4 1 160), (q19, zc K4 1 8), (q20, zc K4 1 8), (q21, zc K4 1 160), (q22, zc K4 1 320), (q23, zc K4 1 320), (q24, zc K4 0 8), (q25, zc K4 1 128), (q26, zc K4 1 128), (q27, zc K4 0 30), (q28, zc K4 0 30)]) rfl ?_
  refine G_putF hC ff_X9_93 (fun C T N h => by cases h; rfl) hin rfl rfl (Nat.le_of_ble_eq_true rfl) dX9_init_242 ?_
  refine G_eq (ws' := [(h0, .inr (9, [.int 0, .ref q1, .ref q2, .ref q3, .ref q4, .ref q5, .ref q6, .ref q7, .ref q8, .ref q9, .ref q10, .ref q11, .ref q12, .ref q13, .ref q14, .ref q15, .ref q16, .ref q17, .ref q18, .ref q19, .ref q20, .ref q21, .ref q22, .ref q23, .ref q24, .ref q25, .ref q26, .int 0, .int 0, .int 0, .int 0, .ref q27, .ref q28, .null, .int 0, .null, .null, .null, .null, .null, .null, .null, .null, .int 0, .null, .null, .null, .int 0, .null, .null, .null, .null, .int 0, .null, .null, .null])), (q1, zc K4 0 8), (q2, zc K4 0 8), (q3, zc K4 2 8), (q4, zc K4 0 160), (q5, zc K4 0 160), (q6, zc K4 0 320), (q7, zc K4 0 320), (q8, zc K4 0 320), (q9, zc K4 2 320), (q10, zc K4 0 320), (q11, zc K4 2 320), (q12, zc K4 1 8), (q13, zc K4 0 8), (q14, zc K4 1 8), (q15, zc K4 1 160), (q16, zc K4 1 160), (q17, zc K4 1 320), (q18, zc K4 1 160), (q19, zc K4 1 8), (q20, zc K4 1 8), (q21, zc K4 1 160), (q22, zc K4 1 320), (q23, zc K4 1 320), (q24, zc K4 0 8), (q25, zc K4 1 128), (q26, zc K4 1 128), (q27, zc K4 0 30), (q28, zc K4 0 30)]) rfl ?_
  refine G_aload_n hC 0 dX9_init_245 rfl ?_
  refine G_bipush (v := 30) hC dX9_init_246 (by decide) ?_
  refine G_newJ (N' := 30) hC ac_J (by decide) (by decide) (by decide) ⟨Nat.le_of_ble_eq_true rfl, Nat.le_of_ble_eq_true rfl⟩ dX9_init_248 (fun q29 => ?_)
  refine G_eq (ws' := [(h0, .inr (9, [.int 0, .ref q1, .ref q2, .ref q3, .ref q4, .ref q5, .ref q6, .ref q7, .ref q8, .ref q9, .ref q10, .ref q11, .ref q12, .ref q13, .ref q14, .ref q15, .ref q16, .ref q17, .ref q18, .ref q19, .ref q20, .ref q21, .ref q22, .ref q23, .ref q24, .ref q25, .ref q26, .int 0, .int 0, .int 0, .int 0, .ref q27, .ref q28, .null, .int 0, .null, .null, .null, .null, .null, .null, .null, .null, .int 0, .null, .null, .null, .int 0, .null, .null, .null, .null, .int 0, .null, .null, .null])), (q1, zc K4 0 8), (q2, zc K4 0 8), (q3, zc K4 2 8), (q4, zc K4 0 160), (q5, zc K4 0 160), (q6, zc K4 0 320), (q7, zc K4 0 320), (q8, zc K4 0 320), (q9, zc K4 2 320), (q10, zc K4 0 320), (q11, zc K4 2 320), (q12, zc K4 1 8), (q13, zc K4 0 8), (q14, zc K4 1 8), (q15, zc K4 1 160), (q16, zc K4 1 160), (q17, zc K4 1 320), (q18, zc K4 1 160), (q19, zc K4 1 8), (q20, zc K4 1 8), (q21, zc K4 1 160), (q22, zc K4 1 320), (q23, zc K4 1 320), (q24, zc K4 0 8), (q25, zc K4 1 128), (q26, zc K4 1 128), (q27, zc K4 0 30), (q28, zc K4 0 30), (q29, zc K4 1 30)]) rfl ?_
  refine G_putF hC ff_X9_96 (fun C T N h => by cases h; rfl) hin rfl rfl (Nat.le_of_ble_eq_true rfl) dX9_init_250 ?_
  refine G_eq (ws' := [(h0, .inr (9, [.int 0, .ref q1, .ref q2, .ref q3, .ref q4, .ref q5, .ref q6, .ref q7, .ref q8, .ref q9, .ref q10, .ref q11, .ref q12, .ref q13, .ref q14, .ref q15, .ref q16, .ref q17, .ref q18, .ref q19, .ref q20, .ref q21, .ref q22, .ref q23, .ref q24, .ref q25, .ref q26, .int 0, .int 0, .int 0, .int 0, .ref q27, .ref q28, .ref q29, .int 0, .null, .null, .null, .null, .null, .null, .null, .null, .int 0, .null, .null, .null, .int 0, .null, .null, .null, .null, .int 0, .null, .null, .null])), (q1, zc K4 0 8), (q2, zc K4 0 8), (q3, zc K4 2 8), (q4, zc K4 0 160), (q5, zc K4 0 160), (q6, zc K4 0 320), (q7, zc K4 0 320), (q8, zc K4 0 320), (q9, zc K4 2 320), (q10, zc K4 0 320), (q11, zc K4 2 320), (q12, zc K4 1 8), (q13, zc K4 0 8), (q14, zc K4 1 8), (q15, zc K4 1 160), (q16, zc K4 1 160), (q17, zc K4 1 320), (q18, zc K4 1 160), (q19, zc K4 1 8), (q20, zc K4 1 8), (q21, zc K4 1 160), (q22, zc K4 1 320), (q23, zc K4 1 320), (q24, zc K4 0 8), (q25, zc K4 1 128), (q26, zc K4 1 128), (q27, zc K4 0 30), (q28, zc K4 0 30), (q29, zc K4 1 30)]) rfl ?_
  refine G_aload_n hC 0 dX9_init_253 rfl ?_
  refine G_bipush (v := 21) hC dX9_init_254 (by decide) ?_
  refine G_newZ (N' := 21) hC ac_Z (by decide) (by decide) (by decide) ⟨Nat.le_of_ble_eq_true rfl, Nat.le_of_ble_eq_true rfl⟩ dX9_init_256 (fun q30 => ?_)
  refine G_eq (ws' := [(h0, .inr (9, [.int 0, .ref q1, .ref q2, .ref q3, .ref q4, .ref q5, .ref q6, .ref q7, .ref q8, .ref q9, .ref q10, .ref q11, .ref q12, .ref q13, .ref q14, .ref q15, .ref q16, .ref q17, .ref q18, .ref q19, .ref q20, .ref q21, .ref q22, .ref q23, .ref q24, .ref q25, .ref q26, .int 0, .int 0, .int 0, .int 0, .ref q27, .ref q28, .ref q29, .int 0, .null, .null, .null, .null, .null, .null, .null, .null, .int 0, .null, .null, .null, .int 0, .null, .null, .null, .null, .int 0, .null, .null, .null])), (q1, zc K4 0 8), (q2, zc K4 0 8), (q3, zc K4 2 8), (q4, zc K4 0 160), (q5, zc K4 0 160), (q6, zc K4 0 320), (q7, zc K4 0 320), (q8, zc K4 0 320), (q9, zc K4 2 320), (q10, zc K4 0 320), (q11, zc K4 2 320), (q12, zc K4 1 8), (q13, zc K4 0 8), (q14, zc K4 1 8), (q15, zc K4 1 160), (q16, zc K4 1 160), (q17, zc K4 1 320), (q18, zc K4 1 160), (q19, zc K4 1 8), (q20, zc K4 1 8), (q21, zc K4 1 160), (q22, zc K4 1 320), (q23, zc K4 1 320), (q24, zc K4 0 8), (q25, zc K4 1 128), (q26, zc K4 1 128), (q27, zc K4 0 30), (q28, zc K4 0 30), (q29, zc K4 1 30), (q30, zc K4 2 21)]) rfl ?_
  refine G_putF hC ff_X9_99 (fun C T N h => by cases h; rfl) hin rfl rfl (Nat.le_of_ble_eq_true rfl) dX9_init_258 ?_
  refine G_eq (ws' := [(h0, .inr (9, [.int 0, .ref q1, .ref q2, .ref q3, .ref q4, .ref q5, .ref q6, .ref q7, .ref q8, .ref q9, .ref q10, .ref q11, .ref q12, .ref q13, .ref q14, .ref q15, .ref q16, .ref q17, .ref q18, .ref q19, .ref q20, .ref q21, .ref q22, .ref q23, .ref q24, .ref q25, .ref q26, .int 0, .int 0, .int 0, .int 0, .ref q27, .ref q28, .ref q29, .int 0, .ref q30, .null, .null, .null, .null, .null, .null, .null, .int 0, .null, .null, .null, .int 0, .null, .null, .null, .null, .int 0, .null, .null, .null])), (q1, zc K4 0 8), (q2, zc K4 0 8), (q3, zc K4 2 8), (q4, zc K4 0 160), (q5, zc K4 0 160), (q6, zc K4 0 320), (q7, zc K4 0 320), (q8, zc K4 0 320), (q9, zc K4 2 320), (q10, zc K4 0 320), (q11, zc K4 2 320), (q12, zc K4 1 8), (q13, zc K4 0 8), (q14, zc K4 1 8), (q15, zc K4 1 160), (q16, zc K4 1 160), (q17, zc K4 1 320), (q18, zc K4 1 160), (q19, zc K4 1 8), (q20, zc K4 1 8), (q21, zc K4 1 160), (q22, zc K4 1 320), (q23, zc K4 1 320), (q24, zc K4 0 8), (q25, zc K4 1 128), (q26, zc K4 1 128), (q27, zc K4 0 30), (q28, zc K4 0 30), (q29, zc K4 1 30), (q30, zc K4 2 21)]) rfl ?_
  refine G_aload_n hC 0 dX9_init_261 rfl ?_
  refine G_bipush (v := 21) hC dX9_init_262 (by decide) ?_
  refine G_newI (N' := 21) hC ac_I (by decide) (by decide) (by decide) ⟨Nat.le_of_ble_eq_true rfl, Nat.le_of_ble_eq_true rfl⟩ dX9_init_264 (fun q31 => ?_)
  refine G_eq (ws' := [(h0, .inr (9, [.int 0, .ref q1, .ref q2, .ref q3, .ref q4, .ref q5, .ref q6, .ref q7, .ref q8, .ref q9, .ref q10, .ref q11, .ref q12, .ref q13, .ref q14, .ref q15, .ref q16, .ref q17, .ref q18, .ref q19, .ref q20, .ref q21, .ref q22, .ref q23, .ref q24, .ref q25, .ref q26, .int 0, .int 0, .int 0, .int 0, .ref q27, .ref q28, .ref q29, .int 0, .ref q30, .null, .null, .null, .null, .null, .null, .null, .int 0, .null, .null, .null, .int 0, .null, .null, .null, .null, .int 0, .null, .null, .null])), (q1, zc K4 0 8), (q2, zc K4 0 8), (q3, zc K4 2 8), (q4, zc K4 0 160), (q5, zc K4 0 160), (q6, zc K4 0 320), (q7, zc K4 0 320), (q8, zc K4 0 320), (q9, zc K4 2 320), (q10, zc K4 0 320), (q11, zc K4 2 320), (q12, zc K4 1 8), (q13, zc K4 0 8), (q14, zc K4 1 8), (q15, zc K4 1 160), (q16, zc K4 1 160), (q17, zc K4 1 320), (q18, zc K4 1 160), (q19, zc K4 1 8), (q20, zc K4 1 8), (q21, zc K4 1 160), (q22, zc K4 1 320), (q23, zc K4 1 320), (q24, zc K4 0 8), (q25, zc K4 1 128), (q26, zc K4 1 128), (q27, zc K4 0 30), (q28, zc K4 0 30), (q29, zc K4 1 30), (q30, zc K4 2 21), (q31, zc K4 0 21)]) rfl ?_
  refine G_putF hC ff_X9_102 (fun C T N h => by cases h; rfl) hin rfl rfl (Nat.le_of_ble_eq_true rfl) dX9_init_266 ?_
  refine G_eq (ws' := [(h0, .inr (9, [.int 0, .ref q1, .ref q2, .ref q3, .ref q4, .ref q5, .ref q6, .ref q7, .ref q8, .ref q9, .ref q10, .ref q11, .ref q12, .ref q13, .ref q14, .ref q15, .ref q16, .ref q17, .ref q18, .ref q19, .ref q20, .ref q21, .ref q22, .ref q23, .ref q24, .ref q25, .ref q26, .int 0, .int 0, .int 0, .int 0, .ref q27, .ref q28, .ref q29, .int 0, .ref q30, .ref q31, .null, .null, .null, .null, .null, .null, .int 0, .null, .null, .null, .int 0, .null, .null, .null, .null, .int 0, .null, .null, .null])), (q1, zc K4 0 8), (q2, zc K4 0 8), (q3, zc K4 2 8), (q4, zc K4 0 160), (q5, zc K4 0 160), (q6, zc K4 0 320), (q7, zc K4 0 320), (q8, zc K4 0 320), (q9, zc K4 2 320), (q10, zc K4 0 320), (q11, zc K4 2 320), (q12, zc K4 1 8), (q13, zc K4 0 8), (q14, zc K4 1 8), (q15, zc K4 1 160), (q16, zc K4 1 160), (q17, zc K4 1 320), (q18, zc K4 1 160), (q19, zc K4 1 8), (q20, zc K4 1 8), (q21, zc K4 1 160), (q22, zc K4 1 320), (q23, zc K4 1 320), (q24, zc K4 0 8), (q25, zc K4 1 128), (q26, zc K4 1 128), (q27, zc K4 0 30), (q28, zc K4 0 30), (q29, zc K4 1 30), (q30, zc K4 2 21), (q31, zc K4 0 21)]) rfl ?_
  refine G_aload_n hC 0 dX9_init_269 rfl ?_
  refine G_bipush (v := 40) hC dX9_init_270 (by decide) ?_
  refine G_newZ (N' := 40) hC ac_Z (by decide) (by decide) (by decide) ⟨Nat.le_of_ble_eq_true rfl, Nat.le_of_ble_eq_true rfl⟩ dX9_init_272 (fun q32 => ?_)
  refine G_eq (ws' := [(h0, .inr (9, [.int 0, .ref q1, .ref q2, .ref q3, .ref q4, .ref q5, .ref q6, .ref q7, .ref q8, .ref q9, .ref q10, .ref q11, .ref q12, .ref q13, .ref q14, .ref q15, .ref q16, .ref q17, .ref q18, .ref q19, .ref q20, .ref q21, .ref q22, .ref q23, .ref q24, .ref q25, .ref q26, .int 0, .int 0, .int 0, .int 0, .ref q27, .ref q28, .ref q29, .int 0, .ref q30, .ref q31, .null, .null, .null, .null, .null, .null, .int 0, .null, .null, .null, .int 0, .null, .null, .null, .null, .int 0, .null, .null, .null])), (q1, zc K4 0 8), (q2, zc K4 0 8), (q3, zc K4 2 8), (q4, zc K4 0 160), (q5, zc K4 0 160), (q6, zc K4 0 320), (q7, zc K4 0 320), (q8, zc K4 0 320), (q9, zc K4 2 320), (q10, zc K4 0 320), (q11, zc K4 2 320), (q12, zc K4 1 8), (q13, zc K4 0 8), (q14, zc K4 1 8), (q15, zc K4 1 160), (q16, zc K4 1 160), (q17, zc K4 1 320), (q18, zc K4 1 160), (q19, zc K4 1 8), (q20, zc K4 1 8), (q21, zc K4 1 160), (q22, zc K4 1 320), (q23, zc K4 1 320), (q24, zc K4 0 8), (q25, zc K4 1 128), (q26, zc K4 1 128), (q27, zc K4 0 30), (q28, zc K4 0 30), (q29, zc K4 1 30), (q30, zc K4 2 21), (q31, zc K4 0 21), (q32, zc K4 2 40)]) rfl ?_
  refine G_putF hC ff_X9_105 (fun C T N h => by cases h; rfl) hin rfl rfl (Nat.le_of_ble_eq_true rfl) dX9_init_274 ?_
  refine G_eq (ws' := [(h0, .inr (9, [.int 0, .ref q1, .ref q2, .ref q3, .ref q4, .ref q5, .ref q6, .ref q7, .ref q8, .ref q9, .ref q10, .ref q11, .ref q12, .ref q13, .ref q14, .ref q15, .ref q16, .ref q17, .ref q18, .ref q19, .ref q20, .ref q21, .ref q22, .ref q23, .ref q24, .ref q25, .ref q26, .int 0, .int 0, .int 0, .int 0, .ref q27, .ref q28, .ref q29, .int 0, .ref q30, .ref q31, .ref q32, .null, .null, .null, .null, .null, .int 0, .null, .null, .null, .int 0, .null, .null, .null, .null, .int 0, .null, .null, .null])), (q1, zc K4 0 8), (q2, zc K4 0 8), (q3, zc K4 2 8), (q4, zc K4 0 160), (q5, zc K4 0 160), (q6, zc K4 0 320), (q7, zc K4 0 320), (q8, zc K4 0 320), (q9, zc K4 2 320), (q10, zc K4 0 320), (q11, zc K4 2 320), (q12, zc K4 1 8), (q13, zc K4 0 8), (q14, zc K4 1 8), (q15, zc K4 1 160), (q16, zc K4 1 160), (q17, zc K4 1 320), (q18, zc K4 1 160), (q19, zc K4 1 8), (q20, zc K4 1 8), (q21, zc K4 1 160), (q22, zc K4 1 320), (q23, zc K4 1 320), (q24, zc K4 0 8), (q25, zc K4 1 128), (q26, zc K4 1 128), (q27, zc K4 0 30), (q28, zc K4 0 30), (q29, zc K4 1 30), (q30, zc K4 2 21), (q31, zc K4 0 21), (q32, zc K4 2 40)]) rfl ?_
  refine G_aload_n hC 0 dX9_init_277 rfl ?_
  refine G_bipush (v := 40) hC dX9_init_278 (by decide) ?_
  refine G_newZ (N' := 40) hC ac_Z (by decide) (by decide) (by decide) ⟨Nat.le_of_ble_eq_true rfl, Nat.le_of_ble_eq_true rfl⟩ dX9_init_280 (fun q33 => ?_)
  refine G_eq (ws' := [(h0, .inr (9, [.int 0, .ref q1, .ref q2, .ref q3, .ref q4, .ref q5, .ref q6, .ref q7, .ref q8, .ref q9, .ref q10, .ref q11, .ref q12, .ref q13, .ref q14, .ref q15, .ref q16, .ref q17, .ref q18, .ref q19, .ref q20, .ref q21, .ref q22, .ref q23, .ref q24, .ref q25, .ref q26, .int 0, .int 0, .int 0, .int 0, .ref q27, .ref q28, .ref q29, .int 0, .ref q30, .ref q31, .ref q32, .null, .null, .null, .null, .null, .int 0, .null, .null, .null, .int 0, .null, .null, .null, .null, .int 0, .null, .null, .null])), (q1, zc K4 0 8), (q2, zc K4 0 8), (q3, zc K4 2 8), (q4, zc K4 0 160), (q5, zc K4 0 160), (q6, zc K4 0 320), (q7, zc K4 0 320), (q8, zc K4 0 320), (q9, zc K4 2 320), (q10, zc K4 0 320), (q11, zc K4 2 320), (q12, zc K4 1 8), (q13, zc K4 0 8), (q14, zc K4 1 8), (q15, zc K4 1 160), (q16, zc K4 1 160), (q17, zc K4 1 320), (q18, zc K4 1 160), (q19, zc K4 1 8), (q20, zc K4 1 8), (q21, zc K4 1 160), (q22, zc K4 1 320), (q23, zc K4 1 320), (q24, zc K4 0 8), (q25, zc K4 1 128), (q26, zc K4 1 128), (q27, zc K4 0 30), (q28, zc K4 0 30), (q29, zc K4 1 30), (q30, zc K4 2 21), (q31, zc K4 0 21), (q32, zc K4 2 40), (q33, zc K4 2 40)]) rfl ?_
  refine G_putF hC ff_X9_108 (fun C T N h => by cases h; rfl) hin rfl rfl (Nat.le_of_ble_eq_true rfl) dX9_init_282 ?_
  refine G_eq (ws' := [(h0, .inr (9, [.int 0, .ref q1, .ref q2, .ref q3, .ref q4, .ref q5, .ref q6, .ref q7, .ref q8, .ref q9, .ref q10, .ref q11, .ref q12, .ref q13, .ref q14, .ref q15, .ref q16, .ref q17, .ref q18, .ref q19, .ref q20, .ref q21, .ref q22, .ref q23, .ref q24, .ref q25, .ref q26, .int 0, .int 0, .int 0, .int 0, .ref q27, .ref q28, .ref q29, .int 0, .ref q30, .ref q31, .ref q32, .ref q33, .null, .null, .null, .null, .int 0, .null, .null, .null, .int 0, .null, .null, .null, .null, .int 0, .null, .null, .null])), (q1, zc K4 0 8), (q2, zc K4 0 8), (q3, zc K4 2 8), (q4, zc K4 0 160), (q5, zc K4 0 160), (q6, zc K4 0 320), (q7, zc K4 0 320), (q8, zc K4 0 320), (q9, zc K4 2 320), (q10, zc K4 0 320), (q11, zc K4 2 320), (q12, zc K4 1 8), (q13, zc K4 0 8), (q14, zc K4 1 8), (q15, zc K4 1 160), (q16, zc K4 1 160), (q17, zc K4 1 320), (q18, zc K4 1 160), (q19, zc K4 1 8), (q20, zc K4 1 8), (q21, zc K4 1 160), (q22, zc K4 1 320), (q23, zc K4 1 320), (q24, zc K4 0 8), (q25, zc K4 1 128), (q26, zc K4 1 128), (q27, zc K4 0 30), (q28, zc K4 0 30), (q29, zc K4 1 30), (q30, zc K4 2 21), (q31, zc K4 0 21), (q32, zc K4 2 40), (q33, zc K4 2 40)]) rfl ?_
  refine G_aload_n hC 0 dX9_init_285 rfl ?_
  refine G_bipush (v := 61) hC dX9_init_286 (by decide) ?_
  refine G_newI (N' := 61) hC ac_I (by decide) (by decide) (by decide) ⟨Nat.le_of_ble_eq_true rfl, Nat.le_of_ble_eq_true rfl⟩ dX9_init_288 (fun q34 => ?_)
  refine G_eq (ws' := [(h0, .inr (9, [.int 0, .ref q1, .ref q2, .ref q3, .ref q4, .ref q5, .ref q6, .ref q7, .ref q8, .ref q9, .ref q10, .ref q11, .ref q12, .ref q13, .ref q14, .ref q15, .ref q16, .ref q17, .ref q18, .ref q19, .ref q20, .ref q21, .ref q22, .ref q23, .ref q24, .ref q25, .ref q26, .int 0, .int 0, .int 0, .int 0, .ref q27, .ref q28, .ref q29, .int 0, .ref q30, .ref q31, .ref q32, .ref q33, .null, .null, .null, .null, .int 0, .null, .null, .null, .int 0, .null, .null, .null, .null, .int 0, .null, .null, .null])), (q1, zc K4 0 8), (q2, zc K4 0 8), (q3, zc K4 2 8), (q4, zc K4 0 160), (q5, zc K4 0 160), (q6, zc K4 0 320), (q7, zc K4 0 320), (q8, zc K4 0 320), (q9, zc K4 2 320), (q10, zc K4 0 320), (q11, zc K4 2 320), (q12, zc K4 1 8), (q13, zc K4 0 8), (q14, zc K4 1 8), (q15, zc K4 1 160), (q16, zc K4 1 160), (q17, zc K4 1 320), (q18, zc K4 1 160), (q19, zc K4 1 8), (q20, zc K4 1 8), (q21, zc K4 1 160), (q22, zc K4 1 320), (q23, zc K4 1 320), (q24, zc K4 0 8), (q25, zc K4 1 128), (q26, zc K4 1 128), (q27, zc K4 0 30), (q28, zc K4 0 30), (q29, zc K4 1 30), (q30, zc K4 2 21), (q31, zc K4 0 21), (q32, zc K4 2 40), (q33, zc K4 2 40), (q34, zc K4 0 61)]) rfl ?_
  refine G_putF hC ff_X9_111 (fun C T N h => by cases h; rfl) hin rfl rfl (Nat.le_of_ble_eq_true rfl) dX9_init_290 ?_
  refine G_eq (ws' := [(h0, .inr (9, [.int 0, .ref q1, .ref q2, .ref q3, .ref q4, .ref q5, .ref q6, .ref q7, .ref q8, .ref q9, .ref q10, .ref q11, .ref q12, .ref q13, .ref q14, .ref q15, .ref q16, .ref q17, .ref q18, .ref q19, .ref q20, .ref q21, .ref q22, .ref q23, .ref q24, .ref q25, .ref q26, .int 0, .int 0, .int 0, .int 0, .ref q27, .ref q28, .ref q29, .int 0, .ref q30, .ref q31, .ref q32, .ref q33, .ref q34, .null, .null, .null, .int 0, .null, .null, .null, .int 0, .null, .null, .null, .null, .int 0, .null, .null, .null])), (q1, zc K4 0 8), (q2, zc K4 0 8), (q3, zc K4 2 8), (q4, zc K4 0 160), (q5, zc K4 0 160), (q6, zc K4 0 320), (q7, zc K4 0 320), (q8, zc K4 0 320), (q9, zc K4 2 320), (q10, zc K4 0 320), (q11, zc K4 2 320), (q12, zc K4 1 8), (q13, zc K4 0 8), (q14, zc K4 1 8), (q15, zc K4 1 160), (q16, zc K4 1 160), (q17, zc K4 1 320), (q18, zc K4 1 160), (q19, zc K4 1 8), (q20, zc K4 1 8), (q21, zc K4 1 160), (q22, zc K4 1 320), (q23, zc K4 1 320), (q24, zc K4 0 8), (q25, zc K4 1 128), (q26, zc K4 1 128), (q27, zc K4 0 30), (q28, zc K4 0 30), (q29, zc K4 1 30), (q30, zc K4 2 21), (q31, zc K4 0 21), (q32, zc K4 2 40), (q33, zc K4 2 40), (q34, zc K4 0 61)]) rfl ?_
  refine G_aload_n hC 0 dX9_init_293 rfl ?_
  refine G_bipush (v := 61) hC dX9_init_294 (by decide) ?_
  refine G_newI (N' := 61) hC ac_I (by decide) (by decide) (by decide) ⟨Nat.le_of_ble_eq_true rfl, Nat.le_of_ble_eq_true rfl⟩ dX9_init_296 (fun q35 => ?_)
  refine G_eq (ws' := [(h0, .inr (9, [.int 0, .ref q1, .ref q2, .ref q3, .ref q4, .ref q5, .ref q6, .ref q7, .ref q8, .ref q9, .ref q10, .ref q11, .ref q12, .ref q13, .ref q14, .ref q15, .ref q16, .ref q17, .ref q18, .ref q19, .ref q20, .ref q21, .ref q22, .ref q23, .ref q24, .ref q25, .ref q26, .int 0, .int 0, .int 0, .int 0, .ref q27, .ref q28, .ref q29, .int 0, .ref q30, .ref q31, .ref q32, .ref q33, .ref q34, .null, .null, .null, .int 0, .null, .null, .null, .int 0, .null, .null, .null, .null, .int 0, .null, .null, .null])), (q1, zc K4 0 8), (q2, zc K4 0 8), (q3, zc K4 2 8), (q4, zc K4 0 160), (q5, zc K4 0 160), (q6, zc K4 0 320), (q7, zc K4 0 320), (q8, zc K4 0 320), (q9, zc K4 2 320), (q10, zc K4 0 320), (q11, zc K4 2 320), (q12, zc K4 1 8), (q13, zc K4 0 8), (q14, zc K4 1 8), (q15, zc K4 1 160), (q16, zc K4 1 160), (q17, zc K4 1 320), (q18, zc K4 1 160), (q19, zc K4 1 8), (q20, zc K4 1 8), (q21, zc K4 1 160), (q22, zc K4 1 320), (q23, zc K4 1 320), (q24, zc K4 0 8), (q25, zc K4 1 128), (q26, zc K4 1 128), (q27, zc K4 0 30), (q28, zc K4 0 30), (q29, zc K4 1 30), (q30, zc K4 2 21), (q31, zc K4 0 21), (q32, zc K4 2 40), (q33, zc K4 2 40), (q34, zc K4 0 61), (q35, zc K4 0 61)]) rfl ?_
  refine G_putF hC ff_X9_114 (fun C T N h => by cases h; rfl) hin rfl rfl (Nat.le_of_ble_eq_true rfl) dX9_init_298 ?_
  refine G_eq (ws' := [(h0, .inr (9, [.int 0, .ref q1, .ref q2, .ref q3, .ref q4, .ref q5, .ref q6, .ref q7, .ref q8, .ref q9, .ref q10, .ref q11, .ref q12, .ref q13, .ref q14, .ref q15, .ref q16, .ref q17, .ref q18, .ref q19, .ref q20, .ref q21, .ref q22, .ref q23, .ref q24, .ref q25, .ref q26, .int 0, .int 0, .int 0, .int 0, .ref q27, .ref q28, .ref q29, .int 0, .ref q30, .ref q31, .ref q32, .ref q33, .ref q34, .ref q35, .null, .null, .int 0, .null, .null, .null, .int 0, .null, .null, .null, .null, .int 0, .null, .null, .null])), (q1, zc K4 0 8), (q2, zc K4 0 8), (q3, zc K4 2 8), (q4, zc K4 0 160), (q5, zc K4 0 160), (q6, zc K4 0 320), (q7, zc K4 0 320), (q8, zc K4 0 320), (q9, zc K4 2 320), (q10, zc K4 0 320), (q11, zc K4 2 320), (q12, zc K4 1 8), (q13, zc K4 0 8), (q14, zc K4 1 8), (q15, zc K4 1 160), (q16, zc K4 1 160), (q17, zc K4 1 320), (q18, zc K4 1 160), (q19, zc K4 1 8), (q20, zc K4 1 8), (q21, zc K4 1 160), (q22, zc K4 1 320), (q23, zc K4 1 320), (q24, zc K4 0 8), (q25, zc K4 1 128), (q26, zc K4 1 128), (q27, zc K4 0 30), (q28, zc K4 0 30), (q29, zc K4 1 30), (q30, zc K4 2 21), (q31, zc K4 0 21), (q32, zc K4 2 40), (q33, zc K4 2 40), (q34, zc K4 0 61), (q35, zc K4 0 61)]) rfl ?_
  refine G_aload_n hC 0 dX9_init_301 rfl ?_
  refine G_bipush (v := 61) hC dX9_init_302 (by decide) ?_
  refine G_newJ (N' := 61) hC ac_J (by decide) (by decide) (by decide) ⟨Nat.le_of_ble_eq_true rfl, Nat.le_of_ble_eq_true rfl⟩ dX9_init_304 (fun q36 => ?_)
  refine G_eq (ws' := [(h0, .inr (9, [.int 0, .ref q1, .ref q2, .ref q3, .ref q4, .ref q5, .ref q6, .ref q7, .ref q8, .ref q9, .ref q10, .ref q11, .ref q12, .ref q13, .ref q14, .ref q15, .ref q16, .ref q17, .ref q18, .ref q19, .ref q20, .ref q21, .ref q22, .ref q23, .ref q24, .ref q25, .ref q26, .int 0, .int 0, .int 0, .int 0, .ref q27, .ref q28, .ref q29, .int 0, .ref q30, .ref q31, .ref q32, .ref q33, .ref q34, .ref q35, .null, .null, .int 0, .null, .null, .null, .int 0, .null, .null, .null, .null, .int 0, .null, .null, .null])), (q1, zc K4 0 8), (q2, zc K4 0 8), (q3, zc K4 2 8), (q4, zc K4 0 160), (q5, zc K4 0 160), (q6, zc K4 0 320), (q7, zc K4 0 320), (q8, zc K4 0 320), (q9, zc K4 2 320), (q10, zc K4 0 320), (q11, zc K4 2 320), (q12, zc K4 1 8), (q13, zc K4 0 8), (q14, zc K4 1 8), (q15, zc K4 1 160), (q16, zc K4 1 160), (q17, zc K4 1 320), (q18, zc K4 1 160), (q19, zc K4 1 8), (q20, zc K4 1 8), (q21, zc K4 1 160), (q22, zc K4 1 320), (q23, zc K4 1 320), (q24, zc K4 0 8), (q25, zc K4 1 128), (q26, zc K4 1 128), (q27, zc K4 0 30), (q28, zc K4 0 30), (q29, zc K4 1 30), (q30, zc K4 2 21), (q31, zc K4 0 21), (q32, zc K4 2 40), (q33, zc K4 2 40), (q34, zc K4 0 61), (q35, zc K4 0 61), (q36, zc K4 1 61)]) rfl ?_
  refine G_putF hC ff_X9_117 (fun C T N h => by cases h; rfl) hin rfl rfl (Nat.le_of_ble_eq_true rfl) dX9_init_306 ?_
  refine G_eq (ws' := [(h0, .inr (9, [.int 0, .ref q1, .ref q2, .ref q3, .ref q4, .ref q5, .ref q6, .ref q7, .ref q8, .ref q9, .ref q10, .ref q11, .ref q12, .ref q13, .ref q14, .ref q15, .ref q16, .ref q17, .ref q18, .ref q19, .ref q20, .ref q21, .ref q22, .ref q23, .ref q24, .ref q25, .ref q26, .int 0, .int 0, .int 0, .int 0, .ref q27, .ref q28, .ref q29, .int 0, .ref q30, .ref q31, .ref q32, .ref q33, .ref q34, .ref q35, .ref q36, .null, .int 0, .null, .null, .null, .int 0, .null, .null, .null, .null, .int 0, .null, .null, .null])), (q1, zc K4 0 8), (q2, zc K4 0 8), (q3, zc K4 2 8), (q4, zc K4 0 160), (q5, zc K4 0 160), (q6, zc K4 0 320), (q7, zc K4 0 320), (q8, zc K4 0 320), (q9, zc K4 2 320), (q10, zc K4 0 320), (q11, zc K4 2 320), (q12, zc K4 1 8), (q13, zc K4 0 8), (q14, zc K4 1 8), (q15, zc K4 1 160), (q16, zc K4 1 160), (q17, zc K4 1 320), (q18, zc K4 1 160), (q19, zc K4 1 8), (q20, zc K4 1 8), (q21, zc K4 1 160), (q22, zc K4 1 320), (q23, zc K4 1 320), (q24, zc K4 0 8), (q25, zc K4 1 128), (q26, zc K4 1 128), (q27, zc K4 0 30), (q28, zc K4 0 30), (q29, zc K4 1 30), (q30, zc K4 2 21), (q31, zc K4 0 21), (q32, zc K4 2 40), (q33, zc K4 2 40), (q34, zc K4 0 61), (q35, zc K4 0 61), (q36, zc K4 1 61)]) rfl ?_
  refine G_aload_n hC 0 dX9_init_309 rfl ?_
  refine G_bipush (v := 61) hC dX9_init_310 (by decide) ?_
  refine G_newZ (N' := 61) hC ac_Z (by decide) (by decide) (by decide) ⟨Nat.le_of_ble_eq_true rfl, Nat.le_of_ble_eq_true rfl⟩ dX9_init_312 (fun q37 => ?_)
  refine G_eq (ws' := [(h0, .inr (9, [.int 0, .ref q1, .ref q2, .ref q3, .ref q4, .ref q5, .ref q6, .ref q7, .ref q8, .ref q9, .ref q10, .ref q11, .ref q12, .ref q13, .ref q14, .ref q15, .ref q16, .ref q17, .ref q18, .ref q19, .ref q20, .ref q21, .ref q22, .ref q23, .ref q24, .ref q25, .ref q26, .int 0, .int 0, .int 0, .int 0, .ref q27, .ref q28, .ref q29, .int 0, .ref q30, .ref q31, .ref q32, .ref q33, .ref q34, .ref q35, .ref q36, .null, .int 0, .null, .null, .null, .int 0, .null, .null, .null, .null, .int 0, .null, .null, .null])), (q1, zc K4 0 8), (q2, zc K4 0 8), (q3, zc K4 2 8), (q4, zc K4 0 160), (q5, zc K4 0 160), (q6, zc K4 0 320), (q7, zc K4 0 320), (q8, zc K4 0 320), (q9, zc K4 2 320), (q10, zc K4 0 320), (q11, zc K4 2 320), (q12, zc K4 1 8), (q13, zc K4 0 8), (q14, zc K4 1 8), (q15, zc K4 1 160), (q16, zc K4 1 160), (q17, zc K4 1 320), (q18, zc K4 1 160), (q19, zc K4 1 8), (q20, zc K4 1 8), (q21, zc K4 1 160), (q22, zc K4 1 320), (q23, zc K4 1 320), (q24, zc K4 0 8), (q25, zc K4 1 128), (q26, zc K4 1 128), (q27, zc K4 0 30), (q28, zc K4 0 30), (q29, zc K4 1 30), (q30, zc K4 2 21), (q31, zc K4 0 21), (q32, zc K4 2 40), (q33, zc K4 2 40), (q34, zc K4 0 61), (q35, zc K4 0 61), (q36, zc K4 1 61), (q37, zc K4 2 61)]) rfl ?_
  refine G_putF hC ff_X9_120 (fun C T N h => by cases h; rfl) hin rfl rfl (Nat.le_of_ble_eq_true rfl) dX9_init_314 ?_
  refine G_eq (ws' := [(h0, .inr (9, [.int 0, .ref q1, .ref q2, .ref q3, .ref q4, .ref q5, .ref q6, .ref q7, .ref q8, .ref q9, .ref q10, .ref q11, .ref q12, .ref q13, .ref q14, .ref q15, .ref q16, .ref q17, .ref q18, .ref q19, .ref q20, .ref q21, .ref q22, .ref q23, .ref q24, .ref q25, .ref q26, .int 0, .int 0, .int 0, .int 0, .ref q27, .ref q28, .ref q29, .int 0, .ref q30, .ref q31, .ref q32, .ref q33, .ref q34, .ref q35, .ref q36, .ref q37, .int 0, .null, .null, .null, .int 0, .null, .null, .null, .null, .int 0, .null, .null, .null])), (q1, zc K4 0 8), (q2, zc K4 0 8), (q3, zc K4 2 8), (q4, zc K4 0 160), (q5, zc K4 0 160), (q6, zc K4 0 320), (q7, zc K4 0 320), (q8, zc K4 0 320), (q9, zc K4 2 320), (q10, zc K4 0 320), (q11, zc K4 2 320), (q12, zc K4 1 8), (q13, zc K4 0 8), (q14, zc K4 1 8), (q15, zc K4 1 160), (q16, zc K4 1 160), (q17, zc K4 1 320), (q18, zc K4 1 160), (q19, zc K4 1 8), (q20, zc K4 1 8), (q21, zc K4 1 160), (q22, zc K4 1 320), (q23, zc K4 1 320), (q24, zc K4 0 8), (q25, zc K4 1 128), (q26, zc K4 1 128), (q27, zc K4 0 30), (q28, zc K4 0 30), (q29, zc K4 1 30), (q30, zc K4 2 21), (q31, zc K4 0 21), (q32, zc K4 2 40), (q33, zc K4 2 40), (q34, zc K4 0 61), (q35, zc K4 0 61), (q36, zc K4 1 61), (q37, zc K4 2 61)]) rfl ?_
  refine G_aload_n hC 0 dX9_init_317 rfl ?_
  refine G_bipush (v := 21) hC dX9_init_318 (by decide) ?_
  refine G_newI (N' := 21) hC ac_I (by decide) (by decide) (by decide) ⟨Nat.le_of_ble_eq_true rfl, Nat.le_of_ble_eq_true rfl⟩ dX9_init_320 (fun q38 => ?_)
  refine G_eq (ws' := [(h0, .inr (9, [.int 0, .ref q1, .ref q2, .ref q3, .ref q4, .ref q5, .ref q6, .ref q7, .ref q8, .ref q9, .ref q10, .ref q11, .ref q12, .ref q13, .ref q14, .ref q15, .ref q16, .ref q17, .ref q18, .ref q19, .ref q20, .ref q21, .ref q22, .ref q23, .ref q24, .ref q25, .ref q26, .int 0, .int 0, .int 0, .int 0, .ref q27, .ref q28, .ref q29, .int 0, .ref q30, .ref q31, .ref q32, .ref q33, .ref q34, .ref q35, .ref q36, .ref q37, .int 0, .null, .null, .null, .int 0, .null, .null, .null, .null, .int 0, .null, .null, .null])), (q1, zc K4 0 8), (q2, zc K4 0 8), (q3, zc K4 2 8), (q4, zc K4 0 160), (q5, zc K4 0 160), (q6, zc K4 0 320), (q7, zc K4 0 320), (q8, zc K4 0 320), (q9, zc K4 2 320), (q10, zc K4 0 320), (q11, zc K4 2 320), (q12, zc K4 1 8), (q13, zc K4 0 8), (q14, zc K4 1 8), (q15, zc K4 1 160), (q16, zc K4 1 160), (q17, zc K4 1 320), (q18, zc K4 1 160), (q19, zc K4 1 8), (q20, zc K4 1 8), (q21, zc K4 1 160), (q22, zc K4 1 320), (q23, zc K4 1 320), (q24, zc K4 0 8), (q25, zc K4 1 128), (q26, zc K4 1 128), (q27, zc K4 0 30), (q28, zc K4 0 30), (q29, zc K4 1 30), (q30, zc K4 2 21), (q31, zc K4 0 21), (q32, zc K4 2 40), (q33, zc K4 2 40), (q34, zc K4 0 61), (q35, zc K4 0 61), (q36, zc K4 1 61), (q37, zc K4 2 61), (q38, zc K4 0 21)]) rfl ?_
  refine G_putF hC ff_X9_123 (fun C T N h => by cases h; rfl) hin rfl rfl (Nat.le_of_ble_eq_true rfl) dX9_init_322 ?_
  refine G_eq (ws' := [(h0, .inr (9, [.int 0, .ref q1, .ref q2, .ref q3, .ref q4, .ref q5, .ref q6, .ref q7, .ref q8, .ref q9, .ref q10, .ref q11, .ref q12, .ref q13, .ref q14, .ref q15, .ref q16, .ref q17, .ref q18, .ref q19, .ref q20, .ref q21, .ref q22, .ref q23, .ref q24, .ref q25, .ref q26, .int 0, .int 0, .int 0, .int 0, .ref q27, .ref q28, .ref q29, .int 0, .ref q30, .ref q31, .ref q32, .ref q33, .ref q34, .ref q35, .ref q36, .ref q37, .int 0, .ref q38, .null, .null, .int 0, .null, .null, .null, .null, .int 0, .null, .null, .null])), (q1, zc K4 0 8), (q2, zc K4 0 8), (q3, zc K4 2 8), (q4, zc K4 0 160), (q5, zc K4 0 160), (q6, zc K4 0 320), (q7, zc K4 0 320), (q8, zc K4 0 320), (q9, zc K4 2 320), (q10, zc K4 0 320), (q11, zc K4 2 320), (q12, zc K4 1 8), (q13, zc K4 0 8), (q14, zc K4 1 8), (q15, zc K4 1 160), (q16, zc K4 1 160), (q17, zc K4 1 320), (q18, zc K4 1 160), (q19, zc K4 1 8), (q20, zc K4 1 8), (q21, zc K4 1 160), (q22, zc K4 1 320), (q23, zc K4 1 320), (q24, zc K4 0 8), (q25, zc K4 1 128), (q26, zc K4 1 128), (q27, zc K4 0 30), (q28, zc K4 0 30), (q29, zc K4 1 30), (q30, zc K4 2 21), (q31, zc K4 0 21), (q32, zc K4 2 40), (q33, zc K4 2 40), (q34, zc K4 0 61), (q35, zc K4 0 61), (q36, zc K4 1 61), (q37, zc K4 2 61), (q38, zc K4 0 21)]) rfl ?_
  refine G_aload_n hC 0 dX9_init_325 rfl ?_
  refine G_bipush (v := 21) hC dX9_init_326 (by decide) ?_
  refine G_newI (N' := 21) hC ac_I (by decide) (by decide) (by decide) ⟨Nat.le_of_ble_eq_true rfl, Nat.le_of_ble_eq_true rfl⟩ dX9_init_328 (fun q39 => ?_)
  refine G_eq (ws' := [(h0, .inr (9, [.int 0, .ref q1, .ref q2, .ref q3, .ref q4, .ref q5, .ref q6, .ref q7, .ref q8, .ref q9, .ref q10, .ref q11, .ref q12, .ref q13, .ref q14, .ref q15, .ref q16, .ref q17, .ref q18, .ref q19, .ref q20, .ref q21, .ref q22, .ref q23, .ref q24, .ref q25, .ref q26, .int 0, .int 0, .int 0, .int 0, .ref q27, .ref q28, .ref q29, .int 0, .ref q30, .ref q31, .ref q32, .ref q33, .ref q34, .ref q35, .ref q36, .ref q37, .int 0, .ref q38, .null, .null, .int 0, .null, .null, .null, .null, .int 0, .null, .null, .null])), (q1, zc K4 0 8), (q2, zc K4 0 8), (q3, zc K4 2 8), (q4, zc K4 0 160), (q5, zc K4 0 160), (q6, zc K4 0 320), (q7, zc K4 0 320), (q8, zc K4 0 320), (q9, zc K4 2 320), (q10, zc K4 0 320), (q11, zc K4 2 320), (q12, zc K4 1 8), (q13, zc K4 0 8), (q14, zc K4 1 8), (q15, zc K4 1 160), (q16, zc K4 1 160), (q17, zc K4 1 320), (q18, zc K4 1 160), (q19, zc K4 1 8), (q20, zc K4 1 8), (q21, zc K4 1 160), (q22, zc K4 1 320), (q23, zc K4 1 320), (q24, zc K4 0 8), (q25, zc K4 1 128), (q26, zc K4 1 128), (q27, zc K4 0 30), (q28, zc K4 0 30), (q29, zc K4 1 30), (q30, zc K4 2 21), (q31, zc K4 0 21), (q32, zc K4 2 40), (q33, zc K4 2 40), (q34, zc K4 0 61), (q35, zc K4 0 61), (q36, zc K4 1 61), (q37, zc K4 2 61), (q38, zc K4 0 21), (q39, zc K4 0 21)]) rfl ?_
  refine G_putF hC ff_X9_126 (fun C T N h => by cases h; rfl) hin rfl rfl (Nat.le_of_ble_eq_true rfl) dX9_init_330 ?_
  refine G_eq (ws' := [(h0, .inr (9, [.int 0, .ref q1, .ref q2, .ref q3, .ref q4, .ref q5, .ref q6, .ref q7, .ref q8, .ref q9, .ref q10, .ref q11, .ref q12, .ref q13, .ref q14, .ref q15, .ref q16, .ref q17, .ref q18, .ref q19, .ref q20, .ref q21, .ref q22, .ref q23, .ref q24, .ref q25, .ref q26, .int 0, .int 0, .int 0, .int 0, .ref q27, .ref q28, .ref q29, .int 0, .ref q30, .ref q31, .ref q32, .ref q33, .ref q34, .ref q35, .ref q36, .ref q37, .int 0, .ref q38, .ref q39, .null, .int 0, .null, .null, .null, .null, .int 0, .null, .null, .null])), (q1, zc K4 0 8), (q2, zc K4 0 8), (q3, zc K4 2 8), (q4, zc K4 0 160), (q5, zc K4 0 160), (q6, zc K4 0 320), (q7, zc K4 0 320), (q8, zc K4 0 320), (q9, zc K4 2 320), (q10, zc K4 0 320), (q11, zc K4 2 320), (q12, zc K4 1 8), (q13, zc K4 0 8), (q14, zc K4 1 8), (q15, zc K4 1 160), (q16, zc K4 1 160), (q17, zc K4 1 320), (q18, zc K4 1 160), (q19, zc K4 1 8), (q20, zc K4 1 8), (q21, zc K4 1 160), (q22, zc K4 1 320), (q23, zc K4 1 320), (q24, zc K4 0 8), (q25, zc K4 1 128), (q26, zc K4 1 128), (q27, zc K4 0 30), (q28, zc K4 0 30), (q29, zc K4 1 30), (q30, zc K4 2 21), (q31, zc K4 0 21), (q32, zc K4 2 40), (q33, zc K4 2 40), (q34, zc K4 0 61), (q35, zc K4 0 61), (q36, zc K4 1 61), (q37, zc K4 2 61), (q38, zc K4 0 21), (q39, zc K4 0 21)]) rfl ?_
  refine G_aload_n hC 0 dX9_init_333 rfl ?_
  refine G_bipush (v := 21) hC dX9_init_334 (by decide) ?_
  refine G_newI (N' := 21) hC ac_I (by decide) (by decide) (by decide) ⟨Nat.le_of_ble_eq_true rfl, Nat.le_of_ble_eq_true rfl⟩ dX9_init_336 (fun q40 => ?_)
  refine G_eq (ws' := [(h0, .inr (9, [.int 0, .ref q1, .ref q2, .ref q3, .ref q4, .ref q5, .ref q6, .ref q7, .ref q8, .ref q9, .ref q10, .ref q11, .ref q12, .ref q13, .ref q14, .ref q15, .ref q16, .ref q17, .ref q18, .ref q19, .ref q20, .ref q21, .ref q22, .ref q23, .ref q24, .ref q25, .ref q26, .int 0, .int 0, .int 0, .int 0, .ref q27, .ref q28, .ref q29, .int 0, .ref q30, .ref q31, .ref q32, .ref q33, .ref q34, .ref q35, .ref q36, .ref q37, .int 0, .ref q38, .ref q39, .null, .int 0, .null, .null, .null, .null, .int 0, .null, .null, .null])), (q1, zc K4 0 8), (q2, zc K4 0 8), (q3, zc K4 2 8), (q4, zc K4 0 160), (q5, zc K4 0 160), (q6, zc K4 0 320), (q7, zc K4 0 320), (q8, zc K4 0 320), (q9, zc K4 2 320), (q10, zc K4 0 320), (q11, zc K4 2 320), (q12, zc K4 1 8), (q13, zc K4 0 8), (q14, zc K4 1 8), (q15, zc K4 1 160), (q16, zc K4 1 160), (q17, zc K4 1 320), (q18, zc K4 1 160), (q19, zc K4 1 8), (q20, zc K4 1 8), (q21, zc K4 1 160), (q22, zc K4 1 320), (q23, zc K4 1 320), (q24, zc K4 0 8), (q25, zc K4 1 128), (q26, zc K4 1 128), (q27, zc K4 0 30), (q28, zc K4 0 30), (q29, zc K4 1 30), (q30, zc K4 2 21), (q31, zc K4 0 21), (q32, zc K4 2 40), (q33, zc K4 2 40), (q34, zc K4 0 61), (q35, zc K4 0 61), (q36, zc K4 1 61), (q37, zc K4 2 61), (q38, zc K4 0 21), (q39, zc K4 0 21), (q40, zc K4 0 21)]) rfl ?_
  refine G_putF hC ff_X9_129 (fun C T N h => by cases h; rfl) hin rfl rfl (Nat.le_of_ble_eq_true rfl) dX9_init_338 ?_
  refine G_eq (ws' := [(h0, .inr (9, [.int 0, .ref q1, .ref q2, .ref q3, .ref q4, .ref q5, .ref q6, .ref q7, .ref q8, .ref q9, .ref q10, .ref q11, .ref q12, .ref q13, .ref q14, .ref q15, .ref q16, .ref q17, .ref q18, .ref q19, .ref q20, .ref q21, .ref q22, .ref q23, .ref q24, .ref q25, .ref q26, .int 0, .int 0, .int 0, .int 0, .ref q27, .ref q28, .ref q29, .int 0, .ref q30, .ref q31, .ref q32, .ref q33, .ref q34, .ref q35, .ref q36, .ref q37, .int 0, .ref q38, .ref q39, .ref q40, .int 0, .null, .null, .null, .null, .int 0, .null, .null, .null])), (q1, zc K4 0 8), (q2, zc K4 0 8), (q3, zc K4 2 8), (q4, zc K4 0 160), (q5, zc K4 0 160), (q6, zc K4 0 320), (q7, zc K4 0 320), (q8, zc K4 0 320), (q9, zc K4 2 320), (q10, zc K4 0 320), (q11, zc K4 2 320), (q12, zc K4 1 8), (q13, zc K4 0 8), (q14, zc K4 1 8), (q15, zc K4 1 160), (q16, zc K4 1 160), (q17, zc K4 1 320), (q18, zc K4 1 160), (q19, zc K4 1 8), (q20, zc K4 1 8), (q21, zc K4 1 160), (q22, zc K4 1 320), (q23, zc K4 1 320), (q24, zc K4 0 8), (q25, zc K4 1 128), (q26, zc K4 1 128), (q27, zc K4 0 30), (q28, zc K4 0 30), (q29, zc K4 1 30), (q30, zc K4 2 21), (q31, zc K4 0 21), (q32, zc K4 2 40), (q33, zc K4 2 40), (q34, zc K4 0 61), (q35, zc K4 0 61), (q36, zc K4 1 61), (q37, zc K4 2 61), (q38, zc K4 0 21), (q39, zc K4 0 21), (q40, zc K4 0 21)]) rfl ?_
  refine G_aload_n hC 0 dX9_init_341 rfl ?_
  refine G_sipush (v := 320) hC dX9_init_342 (by decide) ?_
  refine G_newI (N' := 320) hC ac_I (by decide) (by decide) (by decide) ⟨Nat.le_of_ble_eq_true rfl, Nat.le_of_ble_eq_true rfl⟩ dX9_init_345 (fun q41 => ?_)
  refine G_eq (ws' := [(h0, .inr (9, [.int 0, .ref q1, .ref q2, .ref q3, .ref q4, .ref q5, .ref q6, .ref q7, .ref q8, .ref q9, .ref q10, .ref q11, .ref q12, .ref q13, .ref q14, .ref q15, .ref q16, .ref q17, .ref q18, .ref q19, .ref q20, .ref q21, .ref q22, .ref q23, .ref q24, .ref q25, .ref q26, .int 0, .int 0, .int 0, .int 0, .ref q27, .ref q28, .ref q29, .int 0, .ref q30, .ref q31, .ref q32, .ref q33, .ref q34, .ref q35, .ref q36, .ref q37, .int 0, .ref q38, .ref q39, .ref q40, .int 0, .null, .null, .null, .null, .int 0, .null, .null, .null])), (q1, zc K4 0 8), (q2, zc K4 0 8), (q3, zc K4 2 8), (q4, zc K4 0 160), (q5, zc K4 0 160), (q6, zc K4 0 320), (q7, zc K4 0 320), (q8, zc K4 0 320), (q9, zc K4 2 320), (q10, zc K4 0 320), (q11, zc K4 2 320), (q12, zc K4 1 8), (q13, zc K4 0 8), (q14, zc K4 1 8), (q15, zc K4 1 160), (q16, zc K4 1 160), (q17, zc K4 1 320), (q18, zc K4 1 160), (q19, zc K4 1 8), (q20, zc K4 1 8), (q21, zc K4 1 160), (q22, zc K4 1 320), (q23, zc K4 1 320), (q24, zc K4 0 8), (q25, zc K4 1 128), (q26, zc K4 1 128), (q27, zc K4 0 30), (q28, zc K4 0 30), (q29, zc K4 1 30), (q30, zc K4 2 21), (q31, zc K4 0 21), (q32, zc K4 2 40), (q33, zc K4 2 40), (q34, zc K4 0 61), (q35, zc K4 0 61), (q36, zc K4 1 61), (q37, zc K4 2 61), (q38, zc K4 0 21), (q39, zc K4 0 21), (q40, zc K4 0 21), (q41, zc K4 0 320)]) rfl ?_
  refine G_putF hC ff_X9_132 (fun C T N h => by cases h; rfl) hin rfl rfl (Nat.le_of_ble_eq_true rfl) dX9_init_347 ?_
  refine G_eq (ws' := [(h0, .inr (9, [.int 0, .ref q1, .ref q2, .ref q3, .ref q4, .ref q5, .ref q6, .ref q7, .ref q8, .ref q9, .ref q10, .ref q11, .ref q12, .ref q13, .ref q14, .ref q15, .ref q16, .ref q17, .ref q18, .ref q19, .ref q20, .ref q21, .ref q22, .ref q23, .ref q24, .ref q25, .ref q26, .int 0, .int 0, .int 0, .int 0, .ref q27, .ref q28, .ref q29, .int 0, .ref q30, .ref q31, .ref q32, .ref q33, .ref q34, .ref q35, .ref q36, .ref q37, .int 0, .ref q38, .ref q39, .ref q40, .int 0, .ref q41, .null, .null, .null, .int 0, .null, .null, .null])), (q1, zc K4 0 8), (q2, zc K4 0 8), (q3, zc K4 2 8), (q4, zc K4 0 160), (q5, zc K4 0 160), (q6, zc K4 0 320), (q7, zc K4 0 320), (q8, zc K4 0 320), (q9, zc K4 2 320), (q10, zc K4 0 320), (q11, zc K4 2 320), (q12, zc K4 1 8), (q13, zc K4 0 8), (q14, zc K4 1 8), (q15, zc K4 1 160), (q16, zc K4 1 160), (q17, zc K4 1 320), (q18, zc K4 1 160), (q19, zc K4 1 8), (q20, zc K4 1 8), (q21, zc K4 1 160), (q22, zc K4 1 320), (q23, zc K4 1 320), (q24, zc K4 0 8), (q25, zc K4 1 128), (q26, zc K4 1 128), (q27, zc K4 0 30), (q28, zc K4 0 30), (q29, zc K4 1 30), (q30, zc K4 2 21), (q31, zc K4 0 21), (q32, zc K4 2 40), (q33, zc K4 2 40), (q34, zc K4 0 61), (q35, zc K4 0 61), (q36, zc K4 1 61), (q37, zc K4 2 61), (q38, zc K4 0 21), (q39, zc K4 0 21), (q40, zc K4 0 21), (q41, zc K4 0 320)]) rfl ?_
  refine G_aload_n hC 0 dX9_init_350 rfl ?_
  refine G_sipush (v := 320) hC dX9_init_351 (by decide) ?_
  refine G_newI (N' := 320) hC ac_I (by decide) (by decide) (by decide) ⟨Nat.le_of_ble_eq_true rfl, Nat.le_of_ble_eq_true rfl⟩ dX9_init_354 (fun q42 => ?_)
  refine G_eq (ws' := [(h0, .inr (9, [.int 0, .ref q1, .ref q2, .ref q3, .ref q4, .ref q5, .ref q6, .ref q7, .ref q8, .ref q9, .ref q10, .ref q11, .ref q12, .ref q13, .ref q14, .ref q15, .ref q16, .ref q17, .ref q18, .ref q19, .ref q20, .ref q21, .ref q22, .ref q23, .ref q24, .ref q25, .ref q26, .int 0, .int 0, .int 0, .int 0, .ref q27, .ref q28, .ref q29, .int 0, .ref q30, .ref q31, .ref q32, .ref q33, .ref q34, .ref q35, .ref q36, .ref q37, .int 0, .ref q38, .ref q39, .ref q40, .int 0, .ref q41, .null, .null, .null, .int 0, .null, .null, .null])), (q1, zc K4 0 8), (q2, zc K4 0 8), (q3, zc K4 2 8), (q4, zc K4 0 160), (q5, zc K4 0 160), (q6, zc K4 0 320), (q7, zc K4 0 320), (q8, zc K4 0 320), (q9, zc K4 2 320), (q10, zc K4 0 320), (q11, zc K4 2 320), (q12, zc K4 1 8), (q13, zc K4 0 8), (q14, zc K4 1 8), (q15, zc K4 1 160), (q16, zc K4 1 160), (q17, zc K4 1 320), (q18, zc K4 1 160), (q19, zc K4 1 8), (q20, zc K4 1 8), (q21, zc K4 1 160), (q22, zc K4 1 320), (q23, zc K4 1 320), (q24, zc K4 0 8), (q25, zc K4 1 128), (q26, zc K4 1 128), (q27, zc K4 0 30), (q28, zc K4 0 30), (q29, zc K4 1 30), (q30, zc K4 2 21), (q31, zc K4 0 21), (q32, zc K4 2 40), (q33, zc K4 2 40), (q34, zc K4 0 61), (q35, zc K4 0 61), (q36, zc K4 1 61), (q37, zc K4 2 61), (q38, zc K4 0 21), (q39, zc K4 0 21), (q40, zc K4 0 21), (q41, zc K4 0 320), (q42, zc K4 0 320)]) rfl ?_
  refine G_putF hC ff_X9_135 (fun C T N h => by cases h; rfl) hin rfl rfl (Nat.le_of_ble_eq_true rfl) dX9_init_356 ?_
  refine G_eq (ws' := [(h0, .inr (9, [.int 0, .ref q1, .ref q2, .ref q3, .ref q4, .ref q5, .ref q6, .ref q7, .ref q8, .ref q9, .ref q10, .ref q11, .ref q12, .ref q13, .ref q14, .ref q15, .ref q16, .ref q17, .ref q18, .ref q19, .ref q20, .ref q21, .ref q22, .ref q23, .ref q24, .ref q25, .ref q26, .int 0, .int 0, .int 0, .int 0, .ref q27, .ref q28, .ref q29, .int 0, .ref q30, .ref q31, .ref q32, .ref q33, .ref q34, .ref q35, .ref q36, .ref q37, .int 0, .ref q38, .ref q39, .ref q40, .int 0, .ref q41, .ref q42, .null, .null, .int 0, .null, .null, .null])), (q1, zc K4 0 8), (q2, zc K4 0 8), (q3, zc K4 2 8), (q4, zc K4 0 160), (q5, zc K4 0 160), (q6, zc K4 0 320), (q7, zc K4 0 320), (q8, zc K4 0 320), (q9, zc K4 2 320), (q10, zc K4 0 320), (q11, zc K4 2 320), (q12, zc K4 1 8), (q13, zc K4 0 8), (q14, zc K4 1 8), (q15, zc K4 1 160), (q16, zc K4 1 160), (q17, zc K4 1 320), (q18, zc K4 1 160), (q19, zc K4 1 8), (q20, zc K4 1 8), (q21, zc K4 1 160), (q22, zc K4 1 320), (q23, zc K4 1 320), (q24, zc K4 0 8), (q25, zc K4 1 128), (q26, zc K4 1 128), (q27, zc K4 0 30), (q28, zc K4 0 30), (q29, zc K4 1 30), (q30, zc K4 2 21), (q31, zc K4 0 21), (q32, zc K4 2 40), (q33, zc K4 2 40), (q34, zc K4 0 61), (q35, zc K4 0 61), (q36, zc K4 1 61), (q37, zc K4 2 61), (q38, zc K4 0 21), (q39, zc K4 0 21), (q40, zc K4 0 21), (q41, zc K4 0 320), (q42, zc K4 0 320)]) rfl ?_
  refine G_aload_n hC 0 dX9_init_359 rfl ?_
  refine G_sipush (v := 320) hC dX9_init_360 (by decide) ?_
  refine G_newJ (N' := 320) hC ac_J (by decide) (by decide) (by decide) ⟨Nat.le_of_ble_eq_true rfl, Nat.le_of_ble_eq_true rfl⟩ dX9_init_363 (fun q43 => ?_)
  refine G_eq (ws' := [(h0, .inr (9, [.int 0, .ref q1, .ref q2, .ref q3, .ref q4, .ref q5, .ref q6, .ref q7, .ref q8, .ref q9, .ref q10, .ref q11, .ref q12, .ref q13, .ref q14, .ref q15, .ref q16, .ref q17, .ref q18, .ref q19, .ref q20, .ref q21, .ref q22, .ref q23, .ref q24, .ref q25, .ref q26, .int 0, .int 0, .int 0, .int 0, .ref q27, .ref q28, .ref q29, .int 0, .ref q30, .ref q31, .ref q32, .ref q33, .ref q34, .ref q35, .ref q36, .ref q37, .int 0, .ref q38, .ref q39, .ref q40, .int 0, .ref q41, .ref q42, .null, .null, .int 0, .null, .null, .null])), (q1, zc K4 0 8), (q2, zc K4 0 8), (q3, zc K4 2 8), (q4, zc K4 0 160), (q5, zc K4 0 160), (q6, zc K4 0 320), (q7, zc K4 0 320), (q8, zc K4 0 320), (q9, zc K4 2 320), (q10, zc K4 0 320), (q11, zc K4 2 320), (q12, zc K4 1 8), (q13, zc K4 0 8), (q14, zc K4 1 8), (q15, zc K4 1 160), (q16, zc K4 1 160), (q17, zc K4 1 320), (q18, zc K4 1 160), (q19, zc K4 1 8), (q20, zc K4 1 8), (q21, zc K4 1 160), (q22, zc K4 1 320), (q23, zc K4 1 320), (q24, zc K4 0 8), (q25, zc K4 1 128), (q26, zc K4 1 128), (q27, zc K4 0 30), (q28, zc K4 0 30), (q29, zc K4 1 30), (q30, zc K4 2 21), (q31, zc K4 0 21), (q32, zc K4 2 40), (q33, zc K4 2 40), (q34, zc K4 0 61), (q35, zc K4 0 61), (q36, zc K4 1 61), (q37, zc K4 2 61), (q38, zc K4 0 21), (q39, zc K4 0 21), (q40, zc K4 0 21), (q41, zc K4 0 320), (q42, zc K4 0 320), (q43, zc K4 1 320)]) rfl ?_
  refine G_putF hC ff_X9_138 (fun C T N h => by cases h; rfl) hin rfl rfl (Nat.le_of_ble_eq_true rfl) dX9_init_365 ?_
  refine G_eq (ws' := [(h0, .inr (9, [.int 0, .ref q1, .ref q2, .ref q3, .ref q4, .ref q5, .ref q6, .ref q7, .ref q8, .ref q9, .ref q10, .ref q11, .ref q12, .ref q13, .ref q14, .ref q15, .ref q16, .ref q17, .ref q18, .ref q19, .ref q20, .ref q21, .ref q22, .ref q23, .ref q24, .ref q25, .ref q26, .int 0, .int 0, .int 0, .int 0, .ref q27, .ref q28, .ref q29, .int 0, .ref q30, .ref q31, .ref q32, .ref q33, .ref q34, .ref q35, .ref q36, .ref q37, .int 0, .ref q38, .ref q39, .ref q40, .int 0, .ref q41, .ref q42, .ref q43, .null, .int 0, .null, .null, .null])), (q1, zc K4 0 8), (q2, zc K4 0 8), (q3, zc K4 2 8), (q4, zc K4 0 160), (q5, zc K4 0 160), (q6, zc K4 0 320), (q7, zc K4 0 320), (q8, zc K4 0 320), (q9, zc K4 2 320), (q10, zc K4 0 320), (q11, zc K4 2 320), (q12, zc K4 1 8), (q13, zc K4 0 8), (q14, zc K4 1 8), (q15, zc K4 1 160), (q16, zc K4 1 160), (q17, zc K4 1 320), (q18, zc K4 1 160), (q19, zc K4 1 8), (q20, zc K4 1 8), (q21, zc K4 1 160), (q22, zc K4 1 320), (q23, zc K4 1 320), (q24, zc K4 0 8), (q25, zc K4 1 128), (q26, zc K4 1 128), (q27, zc K4 0 30), (q28, zc K4 0 30), (q29, zc K4 1 30), (q30, zc K4 2 21), (q31, zc K4 0 21), (q32, zc K4 2 40), (q33, zc K4 2 40), (q34, zc K4 0 61), (q35, zc K4 0 61), (q36, zc K4 1 61), (q37, zc K4 2 61), (q38, zc K4 0 21), (q39, zc K4 0 21), (q40, zc K4 0 21), (q41, zc K4 0 320), (q42, zc K4 0 320), (q43, zc K4 1 320)]) rfl ?_
  refine G_aload_n hC 0 dX9_init_368 rfl ?_
  refine G_sipush (v := 320) hC dX9_init_369 (by decide) ?_
  refine G_newI (N' := 320) hC ac_I (by decide) (by decide) (by decide) ⟨Nat.le_of_ble_eq_true rfl, Nat.le_of_ble_eq_true rfl⟩ dX9_init_372 (fun q44 => ?_)
  refine G_eq (ws' := [(h0, .inr (9, [.int 0, .ref q1, .ref q2, .ref q3, .ref q4, .ref q5, .ref q6, .ref q7, .ref q8, .ref q9, .ref q10, .ref q11, .ref q12, .ref q13, .ref q14, .ref q15, .ref q16, .ref q17, .ref q18, .ref q19, .ref q20, .ref q21, .ref q22, .ref q23, .ref q24, .ref q25, .ref q26, .int 0, .int 0, .int 0, .int 0, .ref q27, .ref q28, .ref q29, .int 0, .ref q30, .ref q31, .ref q32, .ref q33, .ref q34, .ref q35, .ref q36, .ref q37, .int 0, .ref q38, .ref q39, .ref q40, .int 0, .ref q41, .ref q42, .ref q43, .null, .int 0, .null, .null, .null])), (q1, zc K4 0 8), (q2, zc K4 0 8), (q3, zc K4 2 8), (q4, zc K4 0 160), (q5, zc K4 0 160), (q6, zc K4 0 320), (q7, zc K4 0 320), (q8, zc K4 0 320), (q9, zc K4 2 320), (q10, zc K4 0 320), (q11, zc K4 2 320), (q12, zc K4 1 8), (q13, zc K4 0 8), (q14, zc K4 1 8), (q15, zc K4 1 160), (q16, zc K4 1 160), (q17, zc K4 1 320), (q18, zc K4 1 160), (q19, zc K4 1 8), (q20, zc K4 1 8), (q21, zc K4 1 160), (q22, zc K4 1 320), (q23, zc K4 1 320), (q24, zc K4 0 8), (q25, zc K4 1 128), (q26, zc K4 1 128), (q27, zc K4 0 30), (q28, zc K4 0 30), (q29, zc K4 1 30), (q30, zc K4 2 21), (q31, zc K4 0 21), (q32, zc K4 2 40), (q33, zc K4 2 40), (q34, zc K4 0 61), (q35, zc K4 0 61), (q36, zc K4 1 61), (q37, zc K4 2 61), (q38, zc K4 0 21), (q39, zc K4 0 21), (q40, zc K4 0 21), (q41, zc K4 0 320), (q42, zc K4 0 320), (q43, zc K4 1 320), (q44, zc K4 0 320)]) rfl ?_
  refine G_putF hC ff_X9_141 (fun C T N h => by cases h; rfl) hin rfl rfl (Nat.le_of_ble_eq_true rfl) dX9_init_374 ?_
  refine G_eq (ws' := [(h0, .inr (9, [.int 0, .ref q1, .ref q2, .ref q3, .ref q4, .ref q5, .ref q6, .ref q7, .ref q8, .ref q9, .ref q10, .ref q11, .ref q12, .ref q13, .ref q14, .ref q15, .ref q16, .ref q17, .ref q18, .ref q19, .ref q20, .ref q21, .ref q22, .ref q23, .ref q24, .ref q25, .ref q26, .int 0, .int 0, .int 0, .int 0, .ref q27, .ref q28, .ref q29, .int 0, .ref q30, .ref q31, .ref q32, .ref q33, .ref q34, .ref q35, .ref q36, .ref q37, .int 0, .ref q38, .ref q39, .ref q40, .int 0, .ref q41, .ref q42, .ref q43, .ref q44, .int 0, .null, .null, .null])), (q1, zc K4 0 8), (q2, zc K4 0 8), (q3, zc K4 2 8), (q4, zc K4 0 160), (q5, zc K4 0 160), (q6, zc K4 0 320), (q7, zc K4 0 320), (q8, zc K4 0 320), (q9, zc K4 2 320), (q10, zc K4 0 320), (q11, zc K4 2 320), (q12, zc K4 1 8), (q13, zc K4 0 8), (q14, zc K4 1 8), (q15, zc K4 1 160), (q16, zc K4 1 160), (q17, zc K4 1 320), (q18, zc K4 1 160), (q19, zc K4 1 8), (q20, zc K4 1 8), (q21, zc K4 1 160), (q22, zc K4 1 320), (q23, zc K4 1 320), (q24, zc K4 0 8), (q25, zc K4 1 128), (q26, zc K4 1 128), (q27, zc K4 0 30), (q28, zc K4 0 30), (q29, zc K4 1 30), (q30, zc K4 2 21), (q31, zc K4 0 21), (q32, zc K4 2 40), (q33, zc K4 2 40), (q34, zc K4 0 61), (q35, zc K4 0 61), (q36, zc K4 1 61), (q37, zc K4 2 61), (q38, zc K4 0 21), (q39, zc K4 0 21), (q40, zc K4 0 21), (q41, zc K4 0 320), (q42, zc K4 0 320), (q43, zc K4 1 320), (q44, zc K4 0 320)]) rfl ?_
  refine G_aload_n hC 0 dX9_init_377 rfl ?_
  refine G_bipush (v := 21) hC dX9_init_378 (by decide) ?_
  refine G_newJ (N' := 21) hC ac_J (by decide) (by decide) (by decide) ⟨Nat.le_of_ble_eq_true rfl, Nat.le_of_ble_eq_true rfl⟩ dX9_init_380 (fun q45 => ?_)
  refine G_eq (ws' := [(h0, .inr (9, [.int 0, .ref q1, .ref q2, .ref q3, .ref q4, .ref q5, .ref q6, .ref q7, .ref q8, .ref q9, .ref q10, .ref q11, .ref q12, .ref q13, .ref q14, .ref q15, .ref q16, .ref q17, .ref q18, .ref q19, .ref q20, .ref q21, .ref q22, .ref q23, .ref q24, .ref q25, .ref q26, .int 0, .int 0, .int 0, .int 0, .ref q27, .ref q28, .ref q29, .int 0, .ref q30, .ref q31, .ref q32, .ref q33, .ref q34, .ref q35, .ref q36, .ref q37, .int 0, .ref q38, .ref q39, .ref q40, .int 0, .ref q41, .ref q42, .ref q43, .ref q44, .int 0, .null, .null, .null])), (q1, zc K4 0 8), (q2, zc K4 0 8), (q3, zc K4 2 8), (q4, zc K4 0 160), (q5, zc K4 0 160), (q6, zc K4 0 320), (q7, zc K4 0 320), (q8, zc K4 0 320), (q9, zc K4 2 320), (q10, zc K4 0 320), (q11, zc K4 2 320), (q12, zc K4 1 8), (q13, zc K4 0 8), (q14, zc K4 1 8), (q15, zc K4 1 160), (q16, zc K4 1 160), (q17, zc K4 1 320), (q18, zc K4 1 160), (q19, zc K4 1 8), (q20, zc K4 1 8), (q21, zc K4 1 160), (q22, zc K4 1 320), (q23, zc K4 1 320), (q24, zc K4 0 8), (q25, zc K4 1 128), (q26, zc K4 1 128), (q27, zc K4 0 30), (q28, zc K4 0 30), (q29, zc K4 1 30), (q30, zc K4 2 21), (q31, zc K4 0 21), (q32, zc K4 2 40), (q33, zc K4 2 40), (q34, zc K4 0 61), (q35, zc K4 0 61), (q36, zc K4 1 61), (q37, zc K4 2 61), (q38, zc K4 0 21), (q39, zc K4 0 21), (q40, zc K4 0 21), (q41, zc K4 0 320), (q42, zc K4 0 320), (q43, zc K4 1 320), (q44, zc K4 0 320), (q45, zc K4 1 21)]) rfl ?_
  refine G_putF hC ff_X9_144 (fun C T N h => by cases h; rfl) hin rfl rfl (Nat.le_of_ble_eq_true rfl) dX9_init_382 ?_
  refine G_eq (ws' := [(h0, .inr (9, [.int 0, .ref q1, .ref q2, .ref q3, .ref q4, .ref q5, .ref q6, .ref q7, .ref q8, .ref q9, .ref q10, .ref q11, .ref q12, .ref q13, .ref q14, .ref q15, .ref q16, .ref q17, .ref q18, .ref q19, .ref q20, .ref q21, .ref q22, .ref q23, .ref q24, .ref q25, .ref q26, .int 0, .int 0, .int 0, .int 0, .ref q27, .ref q28, .ref q29, .int 0, .ref q30, .ref q31, .ref q32, .ref q33, .ref q34, .ref q35, .ref q36, .ref q37, .int 0, .ref q38, .ref q39, .ref q40, .int 0, .ref q41, .ref q42, .ref q43, .ref q44, .int 0, .ref q45, .null, .null])), (q1, zc K4 0 8), (q2, zc K4 0 8), (q3, zc K4 2 8), (q4, zc K4 0 160), (q5, zc K4 0 160), (q6, zc K4 0 320), (q7, zc K4 0 320), (q8, zc K4 0 320), (q9, zc K4 2 320), (q10, zc K4 0 320), (q11, zc K4 2 320), (q12, zc K4 1 8), (q13, zc K4 0 8), (q14, zc K4 1 8), (q15, zc K4 1 160), (q16, zc K4 1 160), (q17, zc K4 1 320), (q18, zc K4 1 160), (q19, zc K4 1 8), (q20, zc K4 1 8), (q21, zc K4 1 160), (q22, zc K4 1 320), (q23, zc K4 1 320), (q24, zc K4 0 8), (q25, zc K4 1 128), (q26, zc K4 1 128), (q27, zc K4 0 30), (q28, zc K4 0 30), (q29, zc K4 1 30), (q30, zc K4 2 21), (q31, zc K4 0 21), (q32, zc K4 2 40), (q33, zc K4 2 40), (q34, zc K4 0 61), (q35, zc K4 0 61), (q36, zc K4 1 61), (q37, zc K4 2 61), (q38, zc K4 0 21), (q39, zc K4 0 21), (q40, zc K4 0 21), (q41, zc K4 0 320), (q42, zc K4 0 320), (q43, zc K4 1 320), (q44, zc K4 0 320), (q45, zc K4 1 21)]) rfl ?_
  refine G_aload_n hC 0 dX9_init_385 rfl ?_
  refine G_bipush (v := 21) hC dX9_init_386 (by decide) ?_
  refine G_newI (N' := 21) hC ac_I (by decide) (by decide) (by decide) ⟨Nat.le_of_ble_eq_true rfl, Nat.le_of_ble_eq_true rfl⟩ dX9_init_388 (fun q46 => ?_)
  refine G_eq (ws' := [(h0, .inr (9, [.int 0, .ref q1, .ref q2, .ref q3, .ref q4, .ref q5, .ref q6, .ref q7, .ref q8, .ref q9, .ref q10, .ref q11, .ref q12, .ref q13, .ref q14, .ref q15, .ref q16, .ref q17, .ref q18, .ref q19, .ref q20, .ref q21, .ref q22, .ref q23, .ref q24, .ref q25, .ref q26, .int 0, .int 0, .int 0, .int 0, .ref q27, .ref q28, .ref q29, .int 0, .ref q30, .ref q31, .ref q32, .ref q33, .ref q34, .ref q35, .ref q36, .ref q37, .int 0, .ref q38, .ref q39, .ref q40, .int 0, .ref q41, .ref q42, .ref q43, .ref q44, .int 0, .ref q45, .null, .null])), (q1, zc K4 0 8), (q2, zc K4 0 8), (q3, zc K4 2 8), (q4, zc K4 0 160), (q5, zc K4 0 160), (q6, zc K4 0 320), (q7, zc K4 0 320), (q8, zc K4 0 320), (q9, zc K4 2 320), (q10, zc K4 0 320), (q11, zc K4 2 320), (q12, zc K4 1 8), (q13, zc K4 0 8), (q14, zc K4 1 8), (q15, zc K4 1 160), (q16, zc K4 1 160), (q17, zc K4 1 320), (q18, zc K4 1 160), (q19, zc K4 1 8), (q20, zc K4 1 8), (q21, zc K4 1 160), (q22, zc K4 1 320), (q23, zc K4 1 320), (q24, zc K4 0 8), (q25, zc K4 1 128), (q26, zc K4 1 128), (q27, zc K4 0 30), (q28, zc K4 0 30), (q29, zc K4 1 30), (q30, zc K4 2 21), (q31, zc K4 0 21), (q32, zc K4 2 40), (q33, zc K4 2 40), (q34, zc K4 0 61), (q35, zc K4 0 61), (q36, zc K4 1 61), (q37, zc K4 2 61), (q38, zc K4 0 21), (q39, zc K4 0 21), (q40, zc K4 0 21), (q41, zc K4 0 320), (q42, zc K4 0 320), (q43, zc K4 1 320), (q44, zc K4 0 320), (q45, zc K4 1 21), (q46, zc K4 0 21)]) rfl ?_
  refine G_putF hC ff_X9_147 (fun C T N h => by cases h; rfl) hin rfl rfl (Nat.le_of_ble_eq_true rfl) dX9_init_390 ?_
  refine G_eq (ws' := [(h0, .inr (9, [.int 0, .ref q1, .ref q2, .ref q3, .ref q4, .ref q5, .ref q6, .ref q7, .ref q8, .ref q9, .ref q10, .ref q11, .ref q12, .ref q13, .ref q14, .ref q15, .ref q16, .ref q17, .ref q18, .ref q19, .ref q20, .ref q21, .ref q22, .ref q23, .ref q24, .ref q25, .ref q26, .int 0, .int 0, .int 0, .int 0, .ref q27, .ref q28, .ref q29, .int 0, .ref q30, .ref q31, .ref q32, .ref q33, .ref q34, .ref q35, .ref q36, .ref q37, .int 0, .ref q38, .ref q39, .ref q40, .int 0, .ref q41, .ref q42, .ref q43, .ref q44, .int 0, .ref q45, .ref q46, .null])), (q1, zc K4 0 8), (q2, zc K4 0 8), (q3, zc K4 2 8), (q4, zc K4 0 160), (q5, zc K4 0 160), (q6, zc K4 0 320), (q7, zc K4 0 320), (q8, zc K4 0 320), (q9, zc K4 2 320), (q10, zc K4 0 320), (q11, zc K4 2 320), (q12, zc K4 1 8), (q13, zc K4 0 8), (q14, zc K4 1 8), (q15, zc K4 1 160), (q16, zc K4 1 160), (q17, zc K4 1 320), (q18, zc K4 1 160), (q19, zc K4 1 8), (q20, zc K4 1 8), (q21, zc K4 1 160), (q22, zc K4 1 320), (q23, zc K4 1 320), (q24, zc K4 0 8), (q25, zc K4 1 128), (q26, zc K4 1 128), (q27, zc K4 0 30), (q28, zc K4 0 30), (q29, zc K4 1 30), (q30, zc K4 2 21), (q31, zc K4 0 21), (q32, zc K4 2 40), (q33, zc K4 2 40), (q34, zc K4 0 61), (q35, zc K4 0 61), (q36, zc K4 1 61), (q37, zc K4 2 61), (q38, zc K4 0 21), (q39, zc K4 0 21), (q40, zc K4 0 21), (q41, zc K4 0 320), (q42, zc K4 0 320), (q43, zc K4 1 320), (q44, zc K4 0 320), (q45, zc K4 1 21), (q46, zc K4 0 21)]) rfl ?_
  refine G_aload_n hC 0 dX9_init_393 rfl ?_
  refine G_bipush (v := 21) hC dX9_init_394 (by decide) ?_
  refine G_newI (N' := 21) hC ac_I (by decide) (by decide) (by decide) ⟨Nat.le_of_ble_eq_true rfl, Nat.le_of_ble_eq_true rfl⟩ dX9_init_396 (fun q47 => ?_)
  refine G_eq (ws' := [(h0, .inr (9, [.int 0, .ref q1, .ref q2, .ref q3, .ref q4, .ref q5, .ref q6, .ref q7, .ref q8, .ref q9, .ref q10, .ref q11, .ref q12, .ref q13, .ref q14, .ref q15, .ref q16, .ref q17, .ref q18, .ref q19, .ref q20, .ref q21, .ref q22, .ref q23, .ref q24, .ref q25, .ref q26, .int 0, .int 0, .int 0, .int 0, .ref q27, .ref q28, .ref q29, .int 0, .ref q30, .ref q31, .ref q32, .ref q33, .ref q34, .ref q35, .ref q36, .ref q37, .int 0, .ref q38, .ref q39, .ref q40, .int 0, .ref q41, .ref q42, .ref q43, .ref q44, .int 0, .ref q45, .ref q46, .null])), (q1, zc K4 0 8), (q2, zc K4 0 8), (q3, zc K4 2 8), (q4, zc K4 0 160), (q5, zc K4 0 160), (q6, zc K4 0 320), (q7, zc K4 0 320), (q8, zc K4 0 320), (q9, zc K4 2 320), (q10, zc K4 0 320), (q11, zc K4 2 320), (q12, zc K4 1 8), (q13, zc K4 0 8), (q14, zc K4 1 8), (q15, zc K4 1 160), (q16, zc K4 1 160), (q17, zc K4 1 320), (q18, zc K4 1 160), (q19, zc K4 1 8), (q20, zc K4 1 8), (q21, zc K4 1 160), (q22, zc K4 1 320), (q23, zc K4 1 320), (q24, zc K4 0 8), (q25, zc K4 1 128), (q26, zc K4 1 128), (q27, zc K4 0 30), (q28, zc K4 0 30), (q29, zc K4 1 30), (q30, zc K4 2 21), (q31, zc K4 0 21), (q32, zc K4 2 40), (q33, zc K4 2 40), (q34, zc K4 0 61), (q35, zc K4 0 61), (q36, zc K4 1 61), (q37, zc K4 2 61), (q38, zc K4 0 21), (q39, zc K4 0 21), (q40, zc K4 0 21), (q41, zc K4 0 320), (q42, zc K4 0 320), (q43, zc K4 1 320), (q44, zc K4 0 320), (q45, zc K4 1 21), (q46, zc K4 0 21), (q47, zc K4 0 21)]) rfl ?_
  refine G_putF hC ff_X9_150 (fun C T N h => by cases h; rfl) hin rfl rfl (Nat.le_of_ble_eq_true rfl) dX9_init_398 ?_
  refine G_eq (ws' := [(h0, .inr (9, [.int 0, .ref q1, .ref q2, .ref q3, .ref q4, .ref q5, .ref q6, .ref q7, .ref q8, .ref q9, .ref q10, .ref q11, .ref q12, .ref q13, .ref q14, .ref q15, .ref q16, .ref q17, .ref q18, .ref q19, .ref q20, .ref q21, .ref q22, .ref q23, .ref q24, .ref q25, .ref q26, .int 0, .int 0, .int 0, .int 0, .ref q27, .ref q28, .ref q29, .int 0, .ref q30, .ref q31, .ref q32, .ref q33, .ref q34, .ref q35, .ref q36, .ref q37, .int 0, .ref q38, .ref q39, .ref q40, .int 0, .ref q41, .ref q42, .ref q43, .ref q44, .int 0, .ref q45, .ref q46, .ref q47])), (q1, zc K4 0 8), (q2, zc K4 0 8), (q3, zc K4 2 8), (q4, zc K4 0 160), (q5, zc K4 0 160), (q6, zc K4 0 320), (q7, zc K4 0 320), (q8, zc K4 0 320), (q9, zc K4 2 320), (q10, zc K4 0 320), (q11, zc K4 2 320), (q12, zc K4 1 8), (q13, zc K4 0 8), (q14, zc K4 1 8), (q15, zc K4 1 160), (q16, zc K4 1 160), (q17, zc K4 1 320), (q18, zc K4 1 160), (q19, zc K4 1 8), (q20, zc K4 1 8), (q21, zc K4 1 160), (q22, zc K4 1 320), (q23, zc K4 1 320), (q24, zc K4 0 8), (q25, zc K4 1 128), (q26, zc K4 1 128), (q27, zc K4 0 30), (q28, zc K4 0 30), (q29, zc K4 1 30), (q30, zc K4 2 21), (q31, zc K4 0 21), (q32, zc K4 2 40), (q33, zc K4 2 40), (q34, zc K4 0 61), (q35, zc K4 0 61), (q36, zc K4 1 61), (q37, zc K4 2 61), (q38, zc K4 0 21), (q39, zc K4 0 21), (q40, zc K4 0 21), (q41, zc K4 0 320), (q42, zc K4 0 320), (q43, zc K4 1 320), (q44, zc K4 0 320), (q45, zc K4 1 21), (q46, zc K4 0 21), (q47, zc K4 0 21)]) rfl ?_
  exact G_vret (cs := 47) (sl := 6030) hC [q1, q2, q3, q4, q5, q6, q7, q8, q9, q10, q11, q12, q13, q14, q15, q16, q17, q18, q19, q20, q21, q22, q23, q24, q25, q26, q27, q28, q29, q30, q31, q32, q33, q34, q35, q36, q37, q38, q39, q40, q41, q42, q43, q44, q45, q46, q47] hret dX9_init_401 rfl (fun t a b => ⟨a, b⟩)
