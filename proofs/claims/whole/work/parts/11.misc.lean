theorem kwM_i : Cond.initialized "java/lang/Math" ∈ on_T := kw_1_14
theorem kwM_max_s : Cond.static Lib.Math.max.name ∈ on_T := kw_4_4
theorem kwM_max_c : Cond.code Lib.Math.max.name Lib.Math.max.code 2 (some .int) ∈ on_T := on_m4 5 (by decide +kernel) rfl
theorem kwM_min_s : Cond.static Lib.Math.min.name ∈ on_T := kw_2_237
theorem kwM_min_c : Cond.code Lib.Math.min.name Lib.Math.min.code 2 (some .int) ∈ on_T := on_m2 238 (by decide +kernel) rfl
theorem kwA_n : Cond.native arraycopyName ∈ on_T := kw_3_191
theorem kwA_s : Cond.static arraycopyName ∈ on_T := kw_3_190
theorem kwA_i : Cond.initialized "java/lang/System" ∈ on_T := kw_1_20
