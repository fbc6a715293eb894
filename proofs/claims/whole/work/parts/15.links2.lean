theorem cB_24 : (Int8.ofInt (24 : Int)).toInt32 = 24 := by decide
theorem cI_0 : Int32.ofInt (0 : Int) = 0 := by decide
theorem cI_1 : Int32.ofInt (1 : Int) = 1 := by decide
theorem cI_m1 : Int32.ofInt (-1 : Int) = (-1) := by decide
theorem cI_m8 : Int32.ofInt (-8 : Int) = (-8) := by decide
theorem cS_1580 : (Int16.ofInt (1580 : Int)).toInt32 = 1580 := by decide
theorem cS_1600 : (Int16.ofInt (1600 : Int)).toInt32 = 1600 := by decide
theorem lkV_RX10_101 : LkV RX10 101 yX10_append cX10_append 3 none 1 10 := ⟨tw_mem 775 (by decide +kernel) rfl, tw_mem 777 (by decide +kernel) rfl, tw_mem 1 (by decide +kernel) rfl, tw_mem 142 (by decide +kernel) rfl, tw_mem 778 (by decide +kernel) rfl, ⟨by decide, by decide, by decide⟩, by decide, _, _, rfl⟩
theorem lkw_1_29 : Cond.methodLink RX1 29 Lib.Math.abs.name ∈ tw := tw_mem 993 (by decide +kernel) rfl
theorem lkw_1_41 : Cond.methodLink RX1 41 Lib.Math.max.name ∈ tw := tw_mem 996 (by decide +kernel) rfl
theorem lk_mmax : Cond.static Lib.Math.max.name ∈ tw ∧ Cond.initialized "java/lang/Math" ∈ tw ∧ Cond.code Lib.Math.max.name Lib.Math.max.code 2 (some .int) ∈ tw := ⟨tw_mem 997 (by decide +kernel) rfl, tw_mem 159 (by decide +kernel) rfl, tw_mem 998 (by decide +kernel) rfl⟩
theorem lk_mmin : Cond.static Lib.Math.min.name ∈ tw ∧ Cond.initialized "java/lang/Math" ∈ tw ∧ Cond.code Lib.Math.min.name Lib.Math.min.code 2 (some .int) ∈ tw := ⟨tw_mem 797 (by decide +kernel) rfl, tw_mem 159 (by decide +kernel) rfl, tw_mem 798 (by decide +kernel) rfl⟩
theorem lk_mabs : Cond.static Lib.Math.abs.name ∈ tw ∧ Cond.initialized "java/lang/Math" ∈ tw ∧ Cond.code Lib.Math.abs.name Lib.Math.abs.code 1 (some .int) ∈ tw := ⟨tw_mem 994 (by decide +kernel) rfl, tw_mem 159 (by decide +kernel) rfl, tw_mem 995 (by decide +kernel) rfl⟩
theorem lk_mminL : Cond.static Lib.MathLoose.min_long.x ∈ tw ∧ Cond.initialized "java/lang/Math" ∈ tw ∧ Cond.code Lib.MathLoose.min_long.x Lib.MathLoose.min_long.code 4 (some .long) ∈ tw := ⟨tw_mem 1416 (by decide +kernel) rfl, tw_mem 159 (by decide +kernel) rfl, tw_mem 1417 (by decide +kernel) rfl⟩
theorem lk_copy : Cond.native arraycopyName ∈ tw ∧ Cond.static arraycopyName ∈ tw ∧ Cond.initialized "java/lang/System" ∈ tw := ⟨tw_mem 703 (by decide +kernel) rfl, tw_mem 702 (by decide +kernel) rfl, tw_mem 158 (by decide +kernel) rfl⟩
