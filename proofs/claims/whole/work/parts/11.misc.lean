theorem kwM_i : Cond.initialized "java/lang/Math" ∈ on_T := kw_1_14
theorem kwM_max_s : Cond.static Lib.Math.max.name ∈ on_T := kw_4_4
theorem kwM_max_c : Cond.code Lib.Math.max.name Lib.Math.max.code 2 (some .int) ∈ on_T := on_m4 5 (by decide +kernel) rfl
theorem kwM_min_s : Cond.static Lib.Math.min.name ∈ on_T := kw_2_237
theorem kwM_min_c : Cond.code Lib.Math.min.name Lib.Math.min.code 2 (some .int) ∈ on_T := on_m2 238 (by decide +kernel) rfl
theorem kwA_n : Cond.native arraycopyName ∈ on_T := kw_3_191
theorem kwA_s : Cond.static arraycopyName ∈ on_T := kw_3_190
theorem kwA_i : Cond.initialized "java/lang/System" ∈ on_T := kw_1_20
def on_nm (a : Int) : Int := (on_i a).toInt
theorem on_nm_R (a : Int) : on_R (on_nm a) := ⟨Int32.le_toInt _, Int32.toInt_lt _⟩
theorem on_xi2ln {X : on_X} {E : on_E} {cc : ByteArray} {own : String} {rt : Option FieldType} {fr lo nL z n : Nat} {σ : on_S} {x : Option on_O} {pc pc2 : Nat} {lv : List (Option Value)} {rest : List Value} {a : Int} (hd : on_dq cc pc 1 pc2 .i2l) (k : on_G X E cc own rt fr lo nL z n σ x pc2 lv (.long (on_l (on_nm a)) :: rest)) : on_G X E cc own rt fr lo nL z n σ x pc lv (.int (on_i a) :: rest) := by
  have h := on_xi2l (a := on_nm a) hd k
  rw [show on_i (on_nm a) = on_i a from on_ti _] at h
  unfold on_Ck at h
  rw [if_pos (on_nm_R a)] at h
  exact h
