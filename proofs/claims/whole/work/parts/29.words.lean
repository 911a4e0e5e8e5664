/-! further words, for the constructors -/
theorem t_12 : (Jvm.Cond.classLink "TermBenchLaw" (7 : Nat) "TermBench") ∈ qw := qm (i := 12) (by decide +kernel) (by decide +kernel)
theorem t_13 : (Jvm.Cond.instantiable "TermBench" (4 : Nat)) ∈ qw := qm (i := 13) (by decide +kernel) (by decide +kernel)
theorem t_14 : (Jvm.Cond.methodLink "TermBenchLaw" (9 : Nat) ({ cls := "TermBench", name := "<init>", desc := "()V" } : Jvm.MethodName)) ∈ qw := qm (i := 14) (by decide +kernel) (by decide +kernel)
theorem t_15 : (Jvm.Cond.instanceMethod ({ cls := "TermBench", name := "<init>", desc := "()V" } : Jvm.MethodName)) ∈ qw := qm (i := 15) (by decide +kernel) (by decide +kernel)
theorem t_16 : (Jvm.Cond.code ({ cls := "TermBench", name := "<init>", desc := "()V" } : Jvm.MethodName) prog_1_method_1_code (1 : Nat) (Option.none : Option Jvm.ClassFile.FieldType)) ∈ qw := qm (i := 16) (by decide +kernel) (by decide +kernel)
theorem t_17 : (Jvm.Cond.methodLink "TermBench" (1 : Nat) ({ cls := "java/lang/Object", name := "<init>", desc := "()V" } : Jvm.MethodName)) ∈ qw := qm (i := 17) (by decide +kernel) (by decide +kernel)
theorem t_20 : (Jvm.Cond.classLink "TermBench" (7 : Nat) "TermBench$History") ∈ qw := qm (i := 20) (by decide +kernel) (by decide +kernel)
theorem t_21 : (Jvm.Cond.instantiable "TermBench$History" (5 : Nat)) ∈ qw := qm (i := 21) (by decide +kernel) (by decide +kernel)
theorem t_22 : (Jvm.Cond.methodLink "TermBench" (9 : Nat) ({ cls := "TermBench$History", name := "<init>", desc := "()V" } : Jvm.MethodName)) ∈ qw := qm (i := 22) (by decide +kernel) (by decide +kernel)
theorem t_23 : (Jvm.Cond.instanceMethod ({ cls := "TermBench$History", name := "<init>", desc := "()V" } : Jvm.MethodName)) ∈ qw := qm (i := 23) (by decide +kernel) (by decide +kernel)
theorem t_24 : (Jvm.Cond.code ({ cls := "TermBench$History", name := "<init>", desc := "()V" } : Jvm.MethodName) prog_2_method_1_code (2 : Nat) (Option.none : Option Jvm.ClassFile.FieldType)) ∈ qw := qm (i := 24) (by decide +kernel) (by decide +kernel)
theorem t_25 : (Jvm.Cond.methodLink "TermBench$History" (3 : Nat) ({ cls := "java/lang/Object", name := "<init>", desc := "()V" } : Jvm.MethodName)) ∈ qw := qm (i := 25) (by decide +kernel) (by decide +kernel)
theorem t_26 : (Jvm.Cond.classLink "TermBench$History" (11 : Nat) "TermBench$Program") ∈ qw := qm (i := 26) (by decide +kernel) (by decide +kernel)
theorem t_28 : (Jvm.Cond.instantiable "TermBench$Program" (6 : Nat)) ∈ qw := qm (i := 28) (by decide +kernel) (by decide +kernel)
theorem t_30 : (Jvm.Cond.instanceMethod ({ cls := "TermBench$Program", name := "<init>", desc := "()V" } : Jvm.MethodName)) ∈ qw := qm (i := 30) (by decide +kernel) (by decide +kernel)
theorem t_31 : (Jvm.Cond.code ({ cls := "TermBench$Program", name := "<init>", desc := "()V" } : Jvm.MethodName) prog_5_method_1_code (1 : Nat) (Option.none : Option Jvm.ClassFile.FieldType)) ∈ qw := qm (i := 31) (by decide +kernel) (by decide +kernel)
theorem t_32 : (Jvm.Cond.methodLink "TermBench$Program" (3 : Nat) ({ cls := "java/lang/Object", name := "<init>", desc := "()V" } : Jvm.MethodName)) ∈ qw := qm (i := 32) (by decide +kernel) (by decide +kernel)
theorem t_83 : (Jvm.Cond.classLink "TermBench" (16 : Nat) "TermBench$Typing") ∈ qw := qm (i := 83) (by decide +kernel) (by decide +kernel)
theorem t_84 : (Jvm.Cond.instantiable "TermBench$Typing" (4 : Nat)) ∈ qw := qm (i := 84) (by decide +kernel) (by decide +kernel)
theorem t_86 : (Jvm.Cond.instanceMethod ({ cls := "TermBench$Typing", name := "<init>", desc := "()V" } : Jvm.MethodName)) ∈ qw := qm (i := 86) (by decide +kernel) (by decide +kernel)
theorem t_87 : (Jvm.Cond.code ({ cls := "TermBench$Typing", name := "<init>", desc := "()V" } : Jvm.MethodName) prog_7_method_1_code (1 : Nat) (Option.none : Option Jvm.ClassFile.FieldType)) ∈ qw := qm (i := 87) (by decide +kernel) (by decide +kernel)
theorem t_88 : (Jvm.Cond.methodLink "TermBench$Typing" (3 : Nat) ({ cls := "java/lang/Object", name := "<init>", desc := "()V" } : Jvm.MethodName)) ∈ qw := qm (i := 88) (by decide +kernel) (by decide +kernel)
theorem t_95 : (Jvm.Cond.fieldLink "TermBench$Typing" (22 : Nat) "TermBench$Typing" "change" "I") ∈ qw := qm (i := 95) (by decide +kernel) (by decide +kernel)
theorem t_106 : (Jvm.Cond.classLink "TermBench" (23 : Nat) "TermBench$Page") ∈ qw := qm (i := 106) (by decide +kernel) (by decide +kernel)
theorem t_107 : (Jvm.Cond.instantiable "TermBench$Page" (5 : Nat)) ∈ qw := qm (i := 107) (by decide +kernel) (by decide +kernel)
theorem t_109 : (Jvm.Cond.instanceMethod ({ cls := "TermBench$Page", name := "<init>", desc := "()V" } : Jvm.MethodName)) ∈ qw := qm (i := 109) (by decide +kernel) (by decide +kernel)
theorem t_110 : (Jvm.Cond.code ({ cls := "TermBench$Page", name := "<init>", desc := "()V" } : Jvm.MethodName) prog_4_method_1_code (1 : Nat) (Option.none : Option Jvm.ClassFile.FieldType)) ∈ qw := qm (i := 110) (by decide +kernel) (by decide +kernel)
theorem t_111 : (Jvm.Cond.methodLink "TermBench$Page" (3 : Nat) ({ cls := "java/lang/Object", name := "<init>", desc := "()V" } : Jvm.MethodName)) ∈ qw := qm (i := 111) (by decide +kernel) (by decide +kernel)
theorem t_117 : (Jvm.Cond.fieldLink "TermBench$Page" (26 : Nat) "TermBench$Page" "change" "I") ∈ qw := qm (i := 117) (by decide +kernel) (by decide +kernel)
theorem t_130 : (Jvm.Cond.classLink "TermBench" (30 : Nat) "TermBench$Machine") ∈ qw := qm (i := 130) (by decide +kernel) (by decide +kernel)
theorem t_131 : (Jvm.Cond.instantiable "TermBench$Machine" (6 : Nat)) ∈ qw := qm (i := 131) (by decide +kernel) (by decide +kernel)
theorem t_133 : (Jvm.Cond.instanceMethod ({ cls := "TermBench$Machine", name := "<init>", desc := "()V" } : Jvm.MethodName)) ∈ qw := qm (i := 133) (by decide +kernel) (by decide +kernel)
theorem t_134 : (Jvm.Cond.code ({ cls := "TermBench$Machine", name := "<init>", desc := "()V" } : Jvm.MethodName) prog_3_method_1_code (1 : Nat) (Option.none : Option Jvm.ClassFile.FieldType)) ∈ qw := qm (i := 134) (by decide +kernel) (by decide +kernel)
theorem t_135 : (Jvm.Cond.methodLink "TermBench$Machine" (3 : Nat) ({ cls := "java/lang/Object", name := "<init>", desc := "()V" } : Jvm.MethodName)) ∈ qw := qm (i := 135) (by decide +kernel) (by decide +kernel)
theorem t_524 : (Jvm.Cond.classLink "TermBenchLaw" (10 : Nat) "TermBenchModel") ∈ qw := qm (i := 524) (by decide +kernel) (by decide +kernel)
theorem t_525 : (Jvm.Cond.instantiable "TermBenchModel" (42 : Nat)) ∈ qw := qm (i := 525) (by decide +kernel) (by decide +kernel)
theorem t_526 : (Jvm.Cond.methodLink "TermBenchLaw" (12 : Nat) ({ cls := "TermBenchModel", name := "<init>", desc := "()V" } : Jvm.MethodName)) ∈ qw := qm (i := 526) (by decide +kernel) (by decide +kernel)
theorem t_527 : (Jvm.Cond.instanceMethod ({ cls := "TermBenchModel", name := "<init>", desc := "()V" } : Jvm.MethodName)) ∈ qw := qm (i := 527) (by decide +kernel) (by decide +kernel)
theorem t_528 : (Jvm.Cond.code ({ cls := "TermBenchModel", name := "<init>", desc := "()V" } : Jvm.MethodName) prog_9_method_1_code (1 : Nat) (Option.none : Option Jvm.ClassFile.FieldType)) ∈ qw := qm (i := 528) (by decide +kernel) (by decide +kernel)
theorem t_529 : (Jvm.Cond.methodLink "TermBenchModel" (1 : Nat) ({ cls := "java/lang/Object", name := "<init>", desc := "()V" } : Jvm.MethodName)) ∈ qw := qm (i := 529) (by decide +kernel) (by decide +kernel)
theorem Y_Hi_init : Yw yHi_init cHi_init 2 none 0 := ⟨t_24, t_2, by decide +kernel, by decide⟩
theorem I_Hi_init : Cond.instanceMethod yHi_init ∈ qw := t_23
theorem Y_Ma_init : Yw yMa_init cMa_init 1 none 0 := ⟨t_134, t_6, by decide +kernel, by decide⟩
theorem I_Ma_init : Cond.instanceMethod yMa_init ∈ qw := t_133
theorem Y_Pa_init : Yw yPa_init cPa_init 1 none 0 := ⟨t_110, t_5, by decide +kernel, by decide⟩
theorem I_Pa_init : Cond.instanceMethod yPa_init ∈ qw := t_109
theorem Y_Pr_init : Yw yPr_init cPr_init 1 none 0 := ⟨t_31, t_3, by decide +kernel, by decide⟩
theorem I_Pr_init : Cond.instanceMethod yPr_init ∈ qw := t_30
theorem Y_Tg_init : Yw yTg_init cTg_init 1 none 0 := ⟨t_87, t_4, by decide +kernel, by decide⟩
theorem I_Tg_init : Cond.instanceMethod yTg_init ∈ qw := t_86
theorem Y_Be_init : Yw yBe_init cBe_init 1 none 0 := ⟨t_16, t_1, by decide +kernel, by decide⟩
theorem I_Be_init : Cond.instanceMethod yBe_init ∈ qw := t_15
theorem Y_Mo_init : Yw yMo_init cMo_init 1 none 0 := ⟨t_528, t_7, by decide +kernel, by decide⟩
theorem I_Mo_init : Cond.instanceMethod yMo_init ∈ qw := t_527
