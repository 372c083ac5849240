/-! ===== words of checkIndex ===== -/
theorem w_119 : (Jvm.Cond.initialized "jdk/internal/util/Preconditions") ∈ lwW := lwW_in 119 (by decide +kernel) rfl
theorem w_824 : (Jvm.Cond.methodLink "java/lang/String" (1059 : Nat) ({ cls := "jdk/internal/util/Preconditions", name := "checkIndex", desc := "(IILjava/util/function/BiFunction;)I" } : Jvm.MethodName)) ∈ lwW := lwW_in 824 (by decide +kernel) rfl
theorem w_825 : (Jvm.Cond.static ({ cls := "jdk/internal/util/Preconditions", name := "checkIndex", desc := "(IILjava/util/function/BiFunction;)I" } : Jvm.MethodName)) ∈ lwW := lwW_in 825 (by decide +kernel) rfl
theorem w_826 : (Jvm.Cond.code ({ cls := "jdk/internal/util/Preconditions", name := "checkIndex", desc := "(IILjava/util/function/BiFunction;)I" } : Jvm.MethodName) prog_31_method_11_code (3 : Nat) (Option.some Jvm.ClassFile.FieldType.int)) ∈ lwW := lwW_in 826 (by decide +kernel) rfl
