theorem th_aio0 : (vx_atS RX4 173 "java/lang/ArrayIndexOutOfBoundsException" ["java/lang/IndexOutOfBoundsException", "java/lang/RuntimeException", "java/lang/Exception"]).filter (fun w => !goodWord w) = [Cond.declares (Bundle.initS "java/lang/IndexOutOfBoundsException"), Cond.declares (Bundle.initS "java/lang/RuntimeException"), Cond.declares (Bundle.initS "java/lang/Exception"), Cond.declares (Bundle.initS "java/lang/Throwable"), Cond.castable "java/lang/ArrayIndexOutOfBoundsException" "java/lang/ArrayIndexOutOfBoundsException"] := by decide +kernel
theorem th_aio : ka_thrOk RX4 169 173 "java/lang/ArrayIndexOutOfBoundsException" ["java/lang/IndexOutOfBoundsException", "java/lang/RuntimeException", "java/lang/Exception"] := by
  refine ⟨by decide +kernel, ?_, by decide +kernel, ka_tm 275 (by decide +kernel) rfl, ka_tm 14 (by decide +kernel) rfl, by decide, by decide⟩
  rw [th_aio0]
  intro w hw
  simp only [List.mem_cons, List.not_mem_nil, or_false] at hw
  rcases hw with rfl | rfl | rfl | rfl | rfl
  · exact Or.inr ⟨_, _, _, _, rfl, ka_tm 291 (by decide +kernel) rfl, ka_tm 292 (w := Cond.code (Bundle.initS "java/lang/IndexOutOfBoundsException") Bundle.six 2 none) (by decide +kernel) rfl⟩
  · exact Or.inr ⟨_, _, _, _, rfl, ka_tm 224 (by decide +kernel) rfl, ka_tm 225 (w := Cond.code (Bundle.initS "java/lang/RuntimeException") Bundle.six 2 none) (by decide +kernel) rfl⟩
  · exact Or.inr ⟨_, _, _, _, rfl, ka_tm 227 (by decide +kernel) rfl, ka_tm 228 (w := Cond.code (Bundle.initS "java/lang/Exception") Bundle.six 2 none) (by decide +kernel) rfl⟩
  · exact Or.inr ⟨_, _, _, _, rfl, ka_tm 230 (by decide +kernel) rfl, ka_tm 231 (w := Cond.code (Bundle.initS "java/lang/Throwable") Jvm.LibCode.Throwable.InitS.code 2 none) (by decide +kernel) rfl⟩
  · exact Or.inl ⟨_, by decide +kernel, rfl⟩
theorem th_iae0 : (vx_atS RX4 88 "java/lang/IllegalArgumentException" ["java/lang/RuntimeException", "java/lang/Exception"]).filter (fun w => !goodWord w) = [Cond.declares (Bundle.initS "java/lang/RuntimeException"), Cond.declares (Bundle.initS "java/lang/Exception"), Cond.declares (Bundle.initS "java/lang/Throwable"), Cond.castable "java/lang/IllegalArgumentException" "java/lang/IllegalArgumentException"] := by decide +kernel
theorem th_iae : ka_thrOk RX4 84 88 "java/lang/IllegalArgumentException" ["java/lang/RuntimeException", "java/lang/Exception"] := by
  refine ⟨by decide +kernel, ?_, by decide +kernel, ka_tm 315 (by decide +kernel) rfl, ka_tm 15 (by decide +kernel) rfl, by decide, by decide⟩
  rw [th_iae0]
  intro w hw
  simp only [List.mem_cons, List.not_mem_nil, or_false] at hw
  rcases hw with rfl | rfl | rfl | rfl
  · exact Or.inr ⟨_, _, _, _, rfl, ka_tm 224 (by decide +kernel) rfl, ka_tm 225 (w := Cond.code (Bundle.initS "java/lang/RuntimeException") Bundle.six 2 none) (by decide +kernel) rfl⟩
  · exact Or.inr ⟨_, _, _, _, rfl, ka_tm 227 (by decide +kernel) rfl, ka_tm 228 (w := Cond.code (Bundle.initS "java/lang/Exception") Bundle.six 2 none) (by decide +kernel) rfl⟩
  · exact Or.inr ⟨_, _, _, _, rfl, ka_tm 230 (by decide +kernel) rfl, ka_tm 231 (w := Cond.code (Bundle.initS "java/lang/Throwable") Jvm.LibCode.Throwable.InitS.code 2 none) (by decide +kernel) rfl⟩
  · exact Or.inl ⟨_, by decide +kernel, rfl⟩
theorem th_ari0 : (vx_atS RX4 103 "java/lang/ArithmeticException" ["java/lang/RuntimeException", "java/lang/Exception"]).filter (fun w => !goodWord w) = [Cond.declares (Bundle.initS "java/lang/RuntimeException"), Cond.declares (Bundle.initS "java/lang/Exception"), Cond.declares (Bundle.initS "java/lang/Throwable"), Cond.castable "java/lang/ArithmeticException" "java/lang/ArithmeticException"] := by decide +kernel
theorem th_ari : ka_thrOk RX4 99 103 "java/lang/ArithmeticException" ["java/lang/RuntimeException", "java/lang/Exception"] := by
  refine ⟨by decide +kernel, ?_, by decide +kernel, ka_tm 344 (by decide +kernel) rfl, ka_tm 16 (by decide +kernel) rfl, by decide, by decide⟩
  rw [th_ari0]
  intro w hw
  simp only [List.mem_cons, List.not_mem_nil, or_false] at hw
  rcases hw with rfl | rfl | rfl | rfl
  · exact Or.inr ⟨_, _, _, _, rfl, ka_tm 224 (by decide +kernel) rfl, ka_tm 225 (w := Cond.code (Bundle.initS "java/lang/RuntimeException") Bundle.six 2 none) (by decide +kernel) rfl⟩
  · exact Or.inr ⟨_, _, _, _, rfl, ka_tm 227 (by decide +kernel) rfl, ka_tm 228 (w := Cond.code (Bundle.initS "java/lang/Exception") Bundle.six 2 none) (by decide +kernel) rfl⟩
  · exact Or.inr ⟨_, _, _, _, rfl, ka_tm 230 (by decide +kernel) rfl, ka_tm 231 (w := Cond.code (Bundle.initS "java/lang/Throwable") Jvm.LibCode.Throwable.InitS.code 2 none) (by decide +kernel) rfl⟩
  · exact Or.inl ⟨_, by decide +kernel, rfl⟩
theorem th_uoe0 : (vx_atS RX4 184 "java/lang/UnsupportedOperationException" ["java/lang/RuntimeException", "java/lang/Exception"]).filter (fun w => !goodWord w) = [Cond.declares (Bundle.initS "java/lang/RuntimeException"), Cond.declares (Bundle.initS "java/lang/Exception"), Cond.declares (Bundle.initS "java/lang/Throwable"), Cond.castable "java/lang/UnsupportedOperationException" "java/lang/UnsupportedOperationException"] := by decide +kernel
theorem th_uoe : ka_thrOk RX4 180 184 "java/lang/UnsupportedOperationException" ["java/lang/RuntimeException", "java/lang/Exception"] := by
  refine ⟨by decide +kernel, ?_, by decide +kernel, ka_tm 177 (by decide +kernel) rfl, ka_tm 10 (by decide +kernel) rfl, by decide, by decide⟩
  rw [th_uoe0]
  intro w hw
  simp only [List.mem_cons, List.not_mem_nil, or_false] at hw
  rcases hw with rfl | rfl | rfl | rfl
  · exact Or.inr ⟨_, _, _, _, rfl, ka_tm 224 (by decide +kernel) rfl, ka_tm 225 (w := Cond.code (Bundle.initS "java/lang/RuntimeException") Bundle.six 2 none) (by decide +kernel) rfl⟩
  · exact Or.inr ⟨_, _, _, _, rfl, ka_tm 227 (by decide +kernel) rfl, ka_tm 228 (w := Cond.code (Bundle.initS "java/lang/Exception") Bundle.six 2 none) (by decide +kernel) rfl⟩
  · exact Or.inr ⟨_, _, _, _, rfl, ka_tm 230 (by decide +kernel) rfl, ka_tm 231 (w := Cond.code (Bundle.initS "java/lang/Throwable") Jvm.LibCode.Throwable.InitS.code 2 none) (by decide +kernel) rfl⟩
  · exact Or.inl ⟨_, by decide +kernel, rfl⟩
