/-! the words by their places -/
theorem q0 : (Jvm.Cond.initialized "AliasStreamsLaw") ∈ zWd := zmem 0 (by decide +kernel) rfl
theorem q1 : (Jvm.Cond.initialized "AliasStreams") ∈ zWd := zmem 1 (by decide +kernel) rfl
theorem q2 : (Jvm.Cond.initialized "AliasStreams$Text") ∈ zWd := zmem 2 (by decide +kernel) rfl
theorem q3 : (Jvm.Cond.initialized "AliasStreams$Models") ∈ zWd := zmem 3 (by decide +kernel) rfl
theorem q4 : (Jvm.Cond.initialized "AliasStreams$Model") ∈ zWd := zmem 4 (by decide +kernel) rfl
theorem q5 : (Jvm.Cond.initialized "AliasStreams$State") ∈ zWd := zmem 5 (by decide +kernel) rfl
theorem q6 : (Jvm.Cond.initialized "AliasStreams$Tape") ∈ zWd := zmem 6 (by decide +kernel) rfl
theorem q7 : (Jvm.Cond.initialized "AliasStreams$History") ∈ zWd := zmem 7 (by decide +kernel) rfl
theorem q8 : (Jvm.Cond.initialized "AliasStreams$Saves") ∈ zWd := zmem 8 (by decide +kernel) rfl
theorem q9 : (Jvm.Cond.initialized "AliasStreams$Symbols") ∈ zWd := zmem 9 (by decide +kernel) rfl
theorem q10 : (Jvm.Cond.initialized "AliasStreams$Taking") ∈ zWd := zmem 10 (by decide +kernel) rfl
theorem q11 : (Jvm.Cond.initialized "AliasStreams$Script") ∈ zWd := zmem 11 (by decide +kernel) rfl
theorem q12 : (Jvm.Cond.initialized "java/lang/Math") ∈ zWd := zmem 12 (by decide +kernel) rfl
theorem q13 : (Jvm.Cond.initialized "AliasStreamsModel") ∈ zWd := zmem 13 (by decide +kernel) rfl
theorem q14 : (Jvm.Cond.initialized "java/lang/Throwable") ∈ zWd := zmem 14 (by decide +kernel) rfl
theorem q15 : (Jvm.Cond.initialized "java/lang/Exception") ∈ zWd := zmem 15 (by decide +kernel) rfl
theorem q16 : (Jvm.Cond.initialized "java/lang/RuntimeException") ∈ zWd := zmem 16 (by decide +kernel) rfl
theorem q17 : (Jvm.Cond.initialized "java/lang/IllegalArgumentException") ∈ zWd := zmem 17 (by decide +kernel) rfl
theorem q18 : (Jvm.Cond.initialized "java/lang/IllegalStateException") ∈ zWd := zmem 18 (by decide +kernel) rfl
theorem q19 : (Jvm.Cond.initialized "java/lang/System") ∈ zWd := zmem 19 (by decide +kernel) rfl
theorem q20 : (Jvm.Cond.initialized "java/lang/IndexOutOfBoundsException") ∈ zWd := zmem 20 (by decide +kernel) rfl
theorem q21 : (Jvm.Cond.classLink "AliasStreamsLaw" (8 : Nat) "AliasStreams") ∈ zWd := zmem 21 (by decide +kernel) rfl
theorem q22 : (Jvm.Cond.instantiable "AliasStreams" (10 : Nat)) ∈ zWd := zmem 22 (by decide +kernel) rfl
theorem q23 : (Jvm.Cond.methodLink "AliasStreamsLaw" (100 : Nat) ({ cls := "AliasStreams", name := "<init>", desc := "()V" } : Jvm.MethodName)) ∈ zWd := zmem 23 (by decide +kernel) rfl
theorem q24 : (Jvm.Cond.instanceMethod ({ cls := "AliasStreams", name := "<init>", desc := "()V" } : Jvm.MethodName)) ∈ zWd := zmem 24 (by decide +kernel) rfl
theorem q25 : (Jvm.Cond.code ({ cls := "AliasStreams", name := "<init>", desc := "()V" } : Jvm.MethodName) prog_1_method_1_code (1 : Nat) (Option.none : Option Jvm.ClassFile.FieldType)) ∈ zWd := zmem 25 (by decide +kernel) rfl
theorem q26 : (Jvm.Cond.methodLink "AliasStreams" (3 : Nat) ({ cls := "java/lang/Object", name := "<init>", desc := "()V" } : Jvm.MethodName)) ∈ zWd := zmem 26 (by decide +kernel) rfl
theorem q27 : (Jvm.Cond.instanceMethod ({ cls := "java/lang/Object", name := "<init>", desc := "()V" } : Jvm.MethodName)) ∈ zWd := zmem 27 (by decide +kernel) rfl
theorem q28 : (Jvm.Cond.code ({ cls := "java/lang/Object", name := "<init>", desc := "()V" } : Jvm.MethodName) object_method_1_code (1 : Nat) (Option.none : Option Jvm.ClassFile.FieldType)) ∈ zWd := zmem 28 (by decide +kernel) rfl
theorem q29 : (Jvm.Cond.classLink "AliasStreams" (9 : Nat) "AliasStreams$Text") ∈ zWd := zmem 29 (by decide +kernel) rfl
theorem q30 : (Jvm.Cond.instantiable "AliasStreams$Text" (8 : Nat)) ∈ zWd := zmem 30 (by decide +kernel) rfl
theorem q31 : (Jvm.Cond.methodLinkNest "AliasStreams" (11 : Nat) ({ cls := "AliasStreams$Text", name := "<init>", desc := "()V" } : Jvm.MethodName) "AliasStreams") ∈ zNs := zmemN 31 (by decide +kernel) rfl
theorem q32 : (Jvm.Cond.instanceMethod ({ cls := "AliasStreams$Text", name := "<init>", desc := "()V" } : Jvm.MethodName)) ∈ zWd := zmem 32 (by decide +kernel) rfl
theorem q33 : (Jvm.Cond.code ({ cls := "AliasStreams$Text", name := "<init>", desc := "()V" } : Jvm.MethodName) prog_11_method_1_code (1 : Nat) (Option.none : Option Jvm.ClassFile.FieldType)) ∈ zWd := zmem 33 (by decide +kernel) rfl
theorem q34 : (Jvm.Cond.methodLink "AliasStreams$Text" (3 : Nat) ({ cls := "java/lang/Object", name := "<init>", desc := "()V" } : Jvm.MethodName)) ∈ zWd := zmem 34 (by decide +kernel) rfl
theorem q35 : (Jvm.Cond.fieldLink "AliasStreams$Text" (9 : Nat) "AliasStreams$Text" "characters" "[I") ∈ zWd := zmem 35 (by decide +kernel) rfl
theorem q36 : (Jvm.Cond.fieldLink "AliasStreams$Text" (15 : Nat) "AliasStreams$Text" "counts" "[I") ∈ zWd := zmem 36 (by decide +kernel) rfl
theorem q37 : (Jvm.Cond.fieldLinkNest "AliasStreams$State" (39 : Nat) "AliasStreams$Text" "counts" "[I" "AliasStreams") ∈ zNs := zmemN 37 (by decide +kernel) rfl
theorem q38 : (Jvm.Cond.fieldLink "AliasStreams$Text" (18 : Nat) "AliasStreams$Text" "items" "[I") ∈ zWd := zmem 38 (by decide +kernel) rfl
theorem q39 : (Jvm.Cond.fieldLinkNest "AliasStreams$State" (42 : Nat) "AliasStreams$Text" "items" "[I" "AliasStreams") ∈ zNs := zmemN 39 (by decide +kernel) rfl
theorem q40 : (Jvm.Cond.fieldLink "AliasStreams$Text" (21 : Nat) "AliasStreams$Text" "length" "I") ∈ zWd := zmem 40 (by decide +kernel) rfl
theorem q41 : (Jvm.Cond.fieldLinkNest "AliasStreams" (90 : Nat) "AliasStreams$Text" "length" "I" "AliasStreams") ∈ zNs := zmemN 41 (by decide +kernel) rfl
theorem q42 : (Jvm.Cond.fieldLink "AliasStreams$Text" (28 : Nat) "AliasStreams$Text" "symbolCount" "I") ∈ zWd := zmem 42 (by decide +kernel) rfl
theorem q43 : (Jvm.Cond.fieldLinkNest "AliasStreams" (109 : Nat) "AliasStreams$Text" "symbolCount" "I" "AliasStreams") ∈ zNs := zmemN 43 (by decide +kernel) rfl
theorem q44 : (Jvm.Cond.fieldLink "AliasStreams$Text" (31 : Nat) "AliasStreams$Text" "modelCount" "I") ∈ zWd := zmem 44 (by decide +kernel) rfl
theorem q45 : (Jvm.Cond.fieldLinkNest "AliasStreams" (113 : Nat) "AliasStreams$Text" "modelCount" "I" "AliasStreams") ∈ zNs := zmemN 45 (by decide +kernel) rfl
theorem q46 : (Jvm.Cond.fieldLink "AliasStreams$Text" (34 : Nat) "AliasStreams$Text" "itemCount" "I") ∈ zWd := zmem 46 (by decide +kernel) rfl
theorem q47 : (Jvm.Cond.fieldLinkNest "AliasStreams$State" (43 : Nat) "AliasStreams$Text" "itemCount" "I" "AliasStreams") ∈ zNs := zmemN 47 (by decide +kernel) rfl
theorem q48 : (Jvm.Cond.fieldLink "AliasStreams$Text" (25 : Nat) "AliasStreams$Text" "place" "I") ∈ zWd := zmem 48 (by decide +kernel) rfl
theorem q66 : (Jvm.Cond.arrayClass Jvm.ClassFile.FieldType.int) ∈ zWd := zmem 66 (by decide +kernel) rfl
theorem q67 : (Jvm.Cond.classLink "AliasStreams" (16 : Nat) "AliasStreams$Models") ∈ zWd := zmem 67 (by decide +kernel) rfl
theorem q68 : (Jvm.Cond.instantiable "AliasStreams$Models" (3 : Nat)) ∈ zWd := zmem 68 (by decide +kernel) rfl
theorem q69 : (Jvm.Cond.methodLinkNest "AliasStreams" (18 : Nat) ({ cls := "AliasStreams$Models", name := "<init>", desc := "()V" } : Jvm.MethodName) "AliasStreams") ∈ zNs := zmemN 69 (by decide +kernel) rfl
theorem q70 : (Jvm.Cond.instanceMethod ({ cls := "AliasStreams$Models", name := "<init>", desc := "()V" } : Jvm.MethodName)) ∈ zWd := zmem 70 (by decide +kernel) rfl
theorem q71 : (Jvm.Cond.code ({ cls := "AliasStreams$Models", name := "<init>", desc := "()V" } : Jvm.MethodName) prog_4_method_1_code (2 : Nat) (Option.none : Option Jvm.ClassFile.FieldType)) ∈ zWd := zmem 71 (by decide +kernel) rfl
theorem q72 : (Jvm.Cond.methodLink "AliasStreams$Models" (3 : Nat) ({ cls := "java/lang/Object", name := "<init>", desc := "()V" } : Jvm.MethodName)) ∈ zWd := zmem 72 (by decide +kernel) rfl
theorem q73 : (Jvm.Cond.classLink "AliasStreams$Models" (9 : Nat) "AliasStreams$Model") ∈ zWd := zmem 73 (by decide +kernel) rfl
theorem q75 : (Jvm.Cond.instantiable "AliasStreams$Model" (9 : Nat)) ∈ zWd := zmem 75 (by decide +kernel) rfl
theorem q76 : (Jvm.Cond.methodLinkNest "AliasStreams$Models" (24 : Nat) ({ cls := "AliasStreams$Model", name := "<init>", desc := "()V" } : Jvm.MethodName) "AliasStreams") ∈ zNs := zmemN 76 (by decide +kernel) rfl
theorem q77 : (Jvm.Cond.instanceMethod ({ cls := "AliasStreams$Model", name := "<init>", desc := "()V" } : Jvm.MethodName)) ∈ zWd := zmem 77 (by decide +kernel) rfl
theorem q78 : (Jvm.Cond.code ({ cls := "AliasStreams$Model", name := "<init>", desc := "()V" } : Jvm.MethodName) prog_3_method_1_code (1 : Nat) (Option.none : Option Jvm.ClassFile.FieldType)) ∈ zWd := zmem 78 (by decide +kernel) rfl
theorem q79 : (Jvm.Cond.methodLink "AliasStreams$Model" (3 : Nat) ({ cls := "java/lang/Object", name := "<init>", desc := "()V" } : Jvm.MethodName)) ∈ zWd := zmem 79 (by decide +kernel) rfl
theorem q80 : (Jvm.Cond.fieldLink "AliasStreams$Model" (9 : Nat) "AliasStreams$Model" "frequency" "[I") ∈ zWd := zmem 80 (by decide +kernel) rfl
theorem q81 : (Jvm.Cond.fieldLink "AliasStreams$Model" (15 : Nat) "AliasStreams$Model" "remainder" "[I") ∈ zWd := zmem 81 (by decide +kernel) rfl
theorem q82 : (Jvm.Cond.fieldLink "AliasStreams$Model" (18 : Nat) "AliasStreams$Model" "rest" "[I") ∈ zWd := zmem 82 (by decide +kernel) rfl
theorem q83 : (Jvm.Cond.fieldLinkNest "AliasStreams" (186 : Nat) "AliasStreams$Model" "rest" "[I" "AliasStreams") ∈ zNs := zmemN 83 (by decide +kernel) rfl
theorem q84 : (Jvm.Cond.fieldLink "AliasStreams$Model" (21 : Nat) "AliasStreams$Model" "alias" "[I") ∈ zWd := zmem 84 (by decide +kernel) rfl
theorem q85 : (Jvm.Cond.fieldLinkNest "AliasStreams" (189 : Nat) "AliasStreams$Model" "alias" "[I" "AliasStreams") ∈ zNs := zmemN 85 (by decide +kernel) rfl
theorem q86 : (Jvm.Cond.fieldLink "AliasStreams$Model" (24 : Nat) "AliasStreams$Model" "open" "[Z") ∈ zWd := zmem 86 (by decide +kernel) rfl
theorem q87 : (Jvm.Cond.fieldLink "AliasStreams$Model" (28 : Nat) "AliasStreams$Model" "slotSymbol" "[I") ∈ zWd := zmem 87 (by decide +kernel) rfl
theorem q88 : (Jvm.Cond.fieldLinkNest "AliasStreams$Taking" (60 : Nat) "AliasStreams$Model" "slotSymbol" "[I" "AliasStreams") ∈ zNs := zmemN 88 (by decide +kernel) rfl
theorem q89 : (Jvm.Cond.fieldLinkNest "AliasStreams" (194 : Nat) "AliasStreams$Model" "slotSymbol" "[I" "AliasStreams") ∈ zNs := zmemN 89 (by decide +kernel) rfl
theorem q90 : (Jvm.Cond.fieldLink "AliasStreams$Model" (31 : Nat) "AliasStreams$Model" "slotIndex" "[I") ∈ zWd := zmem 90 (by decide +kernel) rfl
theorem q91 : (Jvm.Cond.fieldLinkNest "AliasStreams$Taking" (69 : Nat) "AliasStreams$Model" "slotIndex" "[I" "AliasStreams") ∈ zNs := zmemN 91 (by decide +kernel) rfl
theorem q92 : (Jvm.Cond.fieldLinkNest "AliasStreams" (197 : Nat) "AliasStreams$Model" "slotIndex" "[I" "AliasStreams") ∈ zNs := zmemN 92 (by decide +kernel) rfl
theorem q93 : (Jvm.Cond.fieldLink "AliasStreams$Model" (34 : Nat) "AliasStreams$Model" "slotOfIndex" "[I") ∈ zWd := zmem 93 (by decide +kernel) rfl
theorem q94 : (Jvm.Cond.fieldLink "AliasStreams$Model" (37 : Nat) "AliasStreams$Model" "slotsSeen" "[I") ∈ zWd := zmem 94 (by decide +kernel) rfl
theorem q114 : (Jvm.Cond.arrayClass Jvm.ClassFile.FieldType.boolean) ∈ zWd := zmem 114 (by decide +kernel) rfl
theorem q115 : (Jvm.Cond.fieldLink "AliasStreams$Models" (11 : Nat) "AliasStreams$Models" "tables" "[LAliasStreams$Model;") ∈ zWd := zmem 115 (by decide +kernel) rfl
theorem q116 : (Jvm.Cond.fieldLink "AliasStreams$Models" (17 : Nat) "AliasStreams$Models" "symbolCount" "I") ∈ zWd := zmem 116 (by decide +kernel) rfl
theorem q117 : (Jvm.Cond.fieldLinkNest "AliasStreams" (112 : Nat) "AliasStreams$Models" "symbolCount" "I" "AliasStreams") ∈ zNs := zmemN 117 (by decide +kernel) rfl
theorem q118 : (Jvm.Cond.fieldLink "AliasStreams$Models" (21 : Nat) "AliasStreams$Models" "modelCount" "I") ∈ zWd := zmem 118 (by decide +kernel) rfl
theorem q119 : (Jvm.Cond.fieldLinkNest "AliasStreams" (116 : Nat) "AliasStreams$Models" "modelCount" "I" "AliasStreams") ∈ zNs := zmemN 119 (by decide +kernel) rfl
theorem q127 : (Jvm.Cond.classLink "AliasStreams" (23 : Nat) "AliasStreams$State") ∈ zWd := zmem 127 (by decide +kernel) rfl
theorem q128 : (Jvm.Cond.instantiable "AliasStreams$State" (4 : Nat)) ∈ zWd := zmem 128 (by decide +kernel) rfl
theorem q129 : (Jvm.Cond.methodLinkNest "AliasStreams" (25 : Nat) ({ cls := "AliasStreams$State", name := "<init>", desc := "()V" } : Jvm.MethodName) "AliasStreams") ∈ zNs := zmemN 129 (by decide +kernel) rfl
theorem q130 : (Jvm.Cond.instanceMethod ({ cls := "AliasStreams$State", name := "<init>", desc := "()V" } : Jvm.MethodName)) ∈ zWd := zmem 130 (by decide +kernel) rfl
theorem q131 : (Jvm.Cond.code ({ cls := "AliasStreams$State", name := "<init>", desc := "()V" } : Jvm.MethodName) prog_7_method_1_code (1 : Nat) (Option.none : Option Jvm.ClassFile.FieldType)) ∈ zWd := zmem 131 (by decide +kernel) rfl
theorem q132 : (Jvm.Cond.methodLink "AliasStreams$State" (3 : Nat) ({ cls := "java/lang/Object", name := "<init>", desc := "()V" } : Jvm.MethodName)) ∈ zWd := zmem 132 (by decide +kernel) rfl
theorem q133 : (Jvm.Cond.classLink "AliasStreams$State" (18 : Nat) "AliasStreams$Tape") ∈ zWd := zmem 133 (by decide +kernel) rfl
theorem q134 : (Jvm.Cond.instantiable "AliasStreams$Tape" (5 : Nat)) ∈ zWd := zmem 134 (by decide +kernel) rfl
theorem q135 : (Jvm.Cond.methodLinkNest "AliasStreams$State" (20 : Nat) ({ cls := "AliasStreams$Tape", name := "<init>", desc := "()V" } : Jvm.MethodName) "AliasStreams") ∈ zNs := zmemN 135 (by decide +kernel) rfl
theorem q136 : (Jvm.Cond.instanceMethod ({ cls := "AliasStreams$Tape", name := "<init>", desc := "()V" } : Jvm.MethodName)) ∈ zWd := zmem 136 (by decide +kernel) rfl
theorem q137 : (Jvm.Cond.code ({ cls := "AliasStreams$Tape", name := "<init>", desc := "()V" } : Jvm.MethodName) prog_10_method_1_code (1 : Nat) (Option.none : Option Jvm.ClassFile.FieldType)) ∈ zWd := zmem 137 (by decide +kernel) rfl
theorem q138 : (Jvm.Cond.methodLink "AliasStreams$Tape" (3 : Nat) ({ cls := "java/lang/Object", name := "<init>", desc := "()V" } : Jvm.MethodName)) ∈ zWd := zmem 138 (by decide +kernel) rfl
theorem q139 : (Jvm.Cond.fieldLink "AliasStreams$Tape" (9 : Nat) "AliasStreams$Tape" "plan" "[I") ∈ zWd := zmem 139 (by decide +kernel) rfl
theorem q140 : (Jvm.Cond.fieldLinkNest "AliasStreams$Taking" (43 : Nat) "AliasStreams$Tape" "plan" "[I" "AliasStreams") ∈ zNs := zmemN 140 (by decide +kernel) rfl
theorem q141 : (Jvm.Cond.fieldLinkNest "AliasStreams$State" (62 : Nat) "AliasStreams$Tape" "plan" "[I" "AliasStreams") ∈ zNs := zmemN 141 (by decide +kernel) rfl
theorem q142 : (Jvm.Cond.fieldLinkNest "AliasStreams" (219 : Nat) "AliasStreams$Tape" "plan" "[I" "AliasStreams") ∈ zNs := zmemN 142 (by decide +kernel) rfl
theorem q143 : (Jvm.Cond.fieldLink "AliasStreams$Tape" (15 : Nat) "AliasStreams$Tape" "digits" "[I") ∈ zWd := zmem 143 (by decide +kernel) rfl
theorem q144 : (Jvm.Cond.fieldLinkNest "AliasStreams$Taking" (76 : Nat) "AliasStreams$Tape" "digits" "[I" "AliasStreams") ∈ zNs := zmemN 144 (by decide +kernel) rfl
theorem q145 : (Jvm.Cond.fieldLinkNest "AliasStreams$Script" (132 : Nat) "AliasStreams$Tape" "digits" "[I" "AliasStreams") ∈ zNs := zmemN 145 (by decide +kernel) rfl
theorem q146 : (Jvm.Cond.fieldLinkNest "AliasStreams" (213 : Nat) "AliasStreams$Tape" "digits" "[I" "AliasStreams") ∈ zNs := zmemN 146 (by decide +kernel) rfl
theorem q147 : (Jvm.Cond.fieldLink "AliasStreams$Tape" (18 : Nat) "AliasStreams$Tape" "heads" "[I") ∈ zWd := zmem 147 (by decide +kernel) rfl
theorem q148 : (Jvm.Cond.fieldLinkNest "AliasStreams$Taking" (27 : Nat) "AliasStreams$Tape" "heads" "[I" "AliasStreams") ∈ zNs := zmemN 148 (by decide +kernel) rfl
theorem q149 : (Jvm.Cond.fieldLinkNest "AliasStreams" (225 : Nat) "AliasStreams$Tape" "heads" "[I" "AliasStreams") ∈ zNs := zmemN 149 (by decide +kernel) rfl
theorem q150 : (Jvm.Cond.fieldLink "AliasStreams$Tape" (21 : Nat) "AliasStreams$Tape" "planLength" "I") ∈ zWd := zmem 150 (by decide +kernel) rfl
theorem q151 : (Jvm.Cond.fieldLinkNest "AliasStreams$Taking" (40 : Nat) "AliasStreams$Tape" "planLength" "I" "AliasStreams") ∈ zNs := zmemN 151 (by decide +kernel) rfl
theorem q152 : (Jvm.Cond.fieldLinkNest "AliasStreams" (143 : Nat) "AliasStreams$Tape" "planLength" "I" "AliasStreams") ∈ zNs := zmemN 152 (by decide +kernel) rfl
theorem q153 : (Jvm.Cond.fieldLinkNest "AliasStreams$State" (59 : Nat) "AliasStreams$Tape" "planLength" "I" "AliasStreams") ∈ zNs := zmemN 153 (by decide +kernel) rfl
theorem q154 : (Jvm.Cond.fieldLinkNest "AliasStreams$Taking" (30 : Nat) "AliasStreams$Tape" "digitCount" "I" "AliasStreams") ∈ zNs := zmemN 154 (by decide +kernel) rfl
theorem q155 : (Jvm.Cond.fieldLink "AliasStreams$Tape" (25 : Nat) "AliasStreams$Tape" "digitCount" "I") ∈ zWd := zmem 155 (by decide +kernel) rfl
theorem q156 : (Jvm.Cond.fieldLinkNest "AliasStreams$Script" (72 : Nat) "AliasStreams$Tape" "digitCount" "I" "AliasStreams") ∈ zNs := zmemN 156 (by decide +kernel) rfl
theorem q157 : (Jvm.Cond.fieldLinkNest "AliasStreams" (140 : Nat) "AliasStreams$Tape" "digitCount" "I" "AliasStreams") ∈ zNs := zmemN 157 (by decide +kernel) rfl
theorem q169 : (Jvm.Cond.fieldLink "AliasStreams$State" (9 : Nat) "AliasStreams$State" "counts" "[I") ∈ zWd := zmem 169 (by decide +kernel) rfl
theorem q170 : (Jvm.Cond.fieldLinkNest "AliasStreams" (75 : Nat) "AliasStreams$State" "counts" "[I" "AliasStreams") ∈ zNs := zmemN 170 (by decide +kernel) rfl
theorem q171 : (Jvm.Cond.fieldLink "AliasStreams$State" (15 : Nat) "AliasStreams$State" "items" "[I") ∈ zWd := zmem 171 (by decide +kernel) rfl
theorem q172 : (Jvm.Cond.fieldLinkNest "AliasStreams$Symbols" (27 : Nat) "AliasStreams$State" "items" "[I" "AliasStreams") ∈ zNs := zmemN 172 (by decide +kernel) rfl
theorem q173 : (Jvm.Cond.fieldLinkNest "AliasStreams" (205 : Nat) "AliasStreams$State" "items" "[I" "AliasStreams") ∈ zNs := zmemN 173 (by decide +kernel) rfl
theorem q174 : (Jvm.Cond.fieldLink "AliasStreams$State" (21 : Nat) "AliasStreams$State" "tape" "LAliasStreams$Tape;") ∈ zWd := zmem 174 (by decide +kernel) rfl
theorem q175 : (Jvm.Cond.fieldLinkNest "AliasStreams$Script" (68 : Nat) "AliasStreams$State" "tape" "LAliasStreams$Tape;" "AliasStreams") ∈ zNs := zmemN 175 (by decide +kernel) rfl
theorem q176 : (Jvm.Cond.fieldLinkNest "AliasStreams" (137 : Nat) "AliasStreams$State" "tape" "LAliasStreams$Tape;" "AliasStreams") ∈ zNs := zmemN 176 (by decide +kernel) rfl
theorem q177 : (Jvm.Cond.fieldLinkNest "AliasStreams$Symbols" (22 : Nat) "AliasStreams$State" "itemCount" "I" "AliasStreams") ∈ zNs := zmemN 177 (by decide +kernel) rfl
theorem q178 : (Jvm.Cond.fieldLink "AliasStreams$State" (31 : Nat) "AliasStreams$State" "itemCount" "I") ∈ zWd := zmem 178 (by decide +kernel) rfl
theorem q179 : (Jvm.Cond.fieldLinkNest "AliasStreams$Script" (90 : Nat) "AliasStreams$State" "itemCount" "I" "AliasStreams") ∈ zNs := zmemN 179 (by decide +kernel) rfl
theorem q180 : (Jvm.Cond.fieldLinkNest "AliasStreams" (127 : Nat) "AliasStreams$State" "itemCount" "I" "AliasStreams") ∈ zNs := zmemN 180 (by decide +kernel) rfl
theorem q190 : (Jvm.Cond.classLink "AliasStreams" (30 : Nat) "AliasStreams$History") ∈ zWd := zmem 190 (by decide +kernel) rfl
theorem q191 : (Jvm.Cond.instantiable "AliasStreams$History" (3 : Nat)) ∈ zWd := zmem 191 (by decide +kernel) rfl
theorem q192 : (Jvm.Cond.methodLinkNest "AliasStreams" (32 : Nat) ({ cls := "AliasStreams$History", name := "<init>", desc := "()V" } : Jvm.MethodName) "AliasStreams") ∈ zNs := zmemN 192 (by decide +kernel) rfl
theorem q193 : (Jvm.Cond.instanceMethod ({ cls := "AliasStreams$History", name := "<init>", desc := "()V" } : Jvm.MethodName)) ∈ zWd := zmem 193 (by decide +kernel) rfl
theorem q194 : (Jvm.Cond.code ({ cls := "AliasStreams$History", name := "<init>", desc := "()V" } : Jvm.MethodName) prog_2_method_1_code (2 : Nat) (Option.none : Option Jvm.ClassFile.FieldType)) ∈ zWd := zmem 194 (by decide +kernel) rfl
theorem q195 : (Jvm.Cond.methodLink "AliasStreams$History" (3 : Nat) ({ cls := "java/lang/Object", name := "<init>", desc := "()V" } : Jvm.MethodName)) ∈ zWd := zmem 195 (by decide +kernel) rfl
theorem q196 : (Jvm.Cond.classLink "AliasStreams$History" (9 : Nat) "AliasStreams$State") ∈ zWd := zmem 196 (by decide +kernel) rfl
theorem q198 : (Jvm.Cond.methodLinkNest "AliasStreams$History" (17 : Nat) ({ cls := "AliasStreams$State", name := "<init>", desc := "()V" } : Jvm.MethodName) "AliasStreams") ∈ zNs := zmemN 198 (by decide +kernel) rfl
theorem q199 : (Jvm.Cond.fieldLink "AliasStreams$History" (11 : Nat) "AliasStreams$History" "states" "[LAliasStreams$State;") ∈ zWd := zmem 199 (by decide +kernel) rfl
theorem q200 : (Jvm.Cond.fieldLink "AliasStreams$History" (22 : Nat) "AliasStreams$History" "next" "I") ∈ zWd := zmem 200 (by decide +kernel) rfl
theorem q201 : (Jvm.Cond.fieldLink "AliasStreams$History" (18 : Nat) "AliasStreams$History" "count" "I") ∈ zWd := zmem 201 (by decide +kernel) rfl
theorem q202 : (Jvm.Cond.fieldLinkNest "AliasStreams" (295 : Nat) "AliasStreams$History" "count" "I" "AliasStreams") ∈ zNs := zmemN 202 (by decide +kernel) rfl
theorem q210 : (Jvm.Cond.classLink "AliasStreams" (37 : Nat) "AliasStreams$Saves") ∈ zWd := zmem 210 (by decide +kernel) rfl
theorem q211 : (Jvm.Cond.instantiable "AliasStreams$Saves" (2 : Nat)) ∈ zWd := zmem 211 (by decide +kernel) rfl
theorem q212 : (Jvm.Cond.methodLinkNest "AliasStreams" (39 : Nat) ({ cls := "AliasStreams$Saves", name := "<init>", desc := "()V" } : Jvm.MethodName) "AliasStreams") ∈ zNs := zmemN 212 (by decide +kernel) rfl
theorem q213 : (Jvm.Cond.instanceMethod ({ cls := "AliasStreams$Saves", name := "<init>", desc := "()V" } : Jvm.MethodName)) ∈ zWd := zmem 213 (by decide +kernel) rfl
theorem q214 : (Jvm.Cond.code ({ cls := "AliasStreams$Saves", name := "<init>", desc := "()V" } : Jvm.MethodName) prog_5_method_1_code (1 : Nat) (Option.none : Option Jvm.ClassFile.FieldType)) ∈ zWd := zmem 214 (by decide +kernel) rfl
theorem q215 : (Jvm.Cond.methodLink "AliasStreams$Saves" (3 : Nat) ({ cls := "java/lang/Object", name := "<init>", desc := "()V" } : Jvm.MethodName)) ∈ zWd := zmem 215 (by decide +kernel) rfl
theorem q216 : (Jvm.Cond.classLink "AliasStreams$Saves" (9 : Nat) "AliasStreams$State") ∈ zWd := zmem 216 (by decide +kernel) rfl
theorem q217 : (Jvm.Cond.methodLinkNest "AliasStreams$Saves" (11 : Nat) ({ cls := "AliasStreams$State", name := "<init>", desc := "()V" } : Jvm.MethodName) "AliasStreams") ∈ zNs := zmemN 217 (by decide +kernel) rfl
theorem q218 : (Jvm.Cond.fieldLink "AliasStreams$Saves" (12 : Nat) "AliasStreams$Saves" "states" "[LAliasStreams$State;") ∈ zWd := zmem 218 (by decide +kernel) rfl
theorem q219 : (Jvm.Cond.fieldLinkNest "AliasStreams" (371 : Nat) "AliasStreams$Saves" "states" "[LAliasStreams$State;" "AliasStreams") ∈ zNs := zmemN 219 (by decide +kernel) rfl
theorem q220 : (Jvm.Cond.fieldLink "AliasStreams$Saves" (18 : Nat) "AliasStreams$Saves" "used" "[Z") ∈ zWd := zmem 220 (by decide +kernel) rfl
theorem q221 : (Jvm.Cond.fieldLinkNest "AliasStreams" (377 : Nat) "AliasStreams$Saves" "used" "[Z" "AliasStreams") ∈ zNs := zmemN 221 (by decide +kernel) rfl
theorem q227 : (Jvm.Cond.classLink "AliasStreams" (44 : Nat) "AliasStreams$Symbols") ∈ zWd := zmem 227 (by decide +kernel) rfl
theorem q228 : (Jvm.Cond.instantiable "AliasStreams$Symbols" (3 : Nat)) ∈ zWd := zmem 228 (by decide +kernel) rfl
theorem q229 : (Jvm.Cond.methodLinkNest "AliasStreams" (46 : Nat) ({ cls := "AliasStreams$Symbols", name := "<init>", desc := "()V" } : Jvm.MethodName) "AliasStreams") ∈ zNs := zmemN 229 (by decide +kernel) rfl
theorem q230 : (Jvm.Cond.instanceMethod ({ cls := "AliasStreams$Symbols", name := "<init>", desc := "()V" } : Jvm.MethodName)) ∈ zWd := zmem 230 (by decide +kernel) rfl
theorem q231 : (Jvm.Cond.code ({ cls := "AliasStreams$Symbols", name := "<init>", desc := "()V" } : Jvm.MethodName) prog_8_method_1_code (1 : Nat) (Option.none : Option Jvm.ClassFile.FieldType)) ∈ zWd := zmem 231 (by decide +kernel) rfl
theorem q232 : (Jvm.Cond.methodLink "AliasStreams$Symbols" (3 : Nat) ({ cls := "java/lang/Object", name := "<init>", desc := "()V" } : Jvm.MethodName)) ∈ zWd := zmem 232 (by decide +kernel) rfl
theorem q233 : (Jvm.Cond.fieldLink "AliasStreams$Symbols" (9 : Nat) "AliasStreams$Symbols" "symbols" "[I") ∈ zWd := zmem 233 (by decide +kernel) rfl
theorem q234 : (Jvm.Cond.fieldLinkNest "AliasStreams$Tape" (57 : Nat) "AliasStreams$Symbols" "symbols" "[I" "AliasStreams") ∈ zNs := zmemN 234 (by decide +kernel) rfl
theorem q235 : (Jvm.Cond.fieldLinkNest "AliasStreams" (334 : Nat) "AliasStreams$Symbols" "symbols" "[I" "AliasStreams") ∈ zNs := zmemN 235 (by decide +kernel) rfl
theorem q236 : (Jvm.Cond.fieldLink "AliasStreams$Symbols" (15 : Nat) "AliasStreams$Symbols" "models" "[I") ∈ zWd := zmem 236 (by decide +kernel) rfl
theorem q237 : (Jvm.Cond.fieldLinkNest "AliasStreams$Tape" (48 : Nat) "AliasStreams$Symbols" "models" "[I" "AliasStreams") ∈ zNs := zmemN 237 (by decide +kernel) rfl
theorem q238 : (Jvm.Cond.fieldLink "AliasStreams$Symbols" (18 : Nat) "AliasStreams$Symbols" "count" "I") ∈ zWd := zmem 238 (by decide +kernel) rfl
theorem q239 : (Jvm.Cond.fieldLinkNest "AliasStreams$Tape" (37 : Nat) "AliasStreams$Symbols" "count" "I" "AliasStreams") ∈ zNs := zmemN 239 (by decide +kernel) rfl
theorem q240 : (Jvm.Cond.fieldLinkNest "AliasStreams" (134 : Nat) "AliasStreams$Symbols" "count" "I" "AliasStreams") ∈ zNs := zmemN 240 (by decide +kernel) rfl
theorem q248 : (Jvm.Cond.classLink "AliasStreams" (51 : Nat) "AliasStreams$Taking") ∈ zWd := zmem 248 (by decide +kernel) rfl
theorem q249 : (Jvm.Cond.instantiable "AliasStreams$Taking" (8 : Nat)) ∈ zWd := zmem 249 (by decide +kernel) rfl
theorem q250 : (Jvm.Cond.methodLinkNest "AliasStreams" (53 : Nat) ({ cls := "AliasStreams$Taking", name := "<init>", desc := "()V" } : Jvm.MethodName) "AliasStreams") ∈ zNs := zmemN 250 (by decide +kernel) rfl
theorem q251 : (Jvm.Cond.instanceMethod ({ cls := "AliasStreams$Taking", name := "<init>", desc := "()V" } : Jvm.MethodName)) ∈ zWd := zmem 251 (by decide +kernel) rfl
theorem q252 : (Jvm.Cond.code ({ cls := "AliasStreams$Taking", name := "<init>", desc := "()V" } : Jvm.MethodName) prog_9_method_1_code (1 : Nat) (Option.none : Option Jvm.ClassFile.FieldType)) ∈ zWd := zmem 252 (by decide +kernel) rfl
theorem q253 : (Jvm.Cond.methodLink "AliasStreams$Taking" (3 : Nat) ({ cls := "java/lang/Object", name := "<init>", desc := "()V" } : Jvm.MethodName)) ∈ zWd := zmem 253 (by decide +kernel) rfl
theorem q254 : (Jvm.Cond.fieldLink "AliasStreams$Taking" (9 : Nat) "AliasStreams$Taking" "symbols" "[I") ∈ zWd := zmem 254 (by decide +kernel) rfl
theorem q255 : (Jvm.Cond.fieldLinkNest "AliasStreams$State" (69 : Nat) "AliasStreams$Taking" "symbols" "[I" "AliasStreams") ∈ zNs := zmemN 255 (by decide +kernel) rfl
theorem q256 : (Jvm.Cond.fieldLinkNest "AliasStreams$Script" (143 : Nat) "AliasStreams$Taking" "symbols" "[I" "AliasStreams") ∈ zNs := zmemN 256 (by decide +kernel) rfl
theorem q257 : (Jvm.Cond.fieldLinkNest "AliasStreams" (305 : Nat) "AliasStreams$Taking" "symbols" "[I" "AliasStreams") ∈ zNs := zmemN 257 (by decide +kernel) rfl
theorem q258 : (Jvm.Cond.fieldLink "AliasStreams$Taking" (15 : Nat) "AliasStreams$Taking" "statesBefore" "[I") ∈ zWd := zmem 258 (by decide +kernel) rfl
theorem q259 : (Jvm.Cond.fieldLinkNest "AliasStreams" (307 : Nat) "AliasStreams$Taking" "statesBefore" "[I" "AliasStreams") ∈ zNs := zmemN 259 (by decide +kernel) rfl
theorem q260 : (Jvm.Cond.fieldLink "AliasStreams$Taking" (18 : Nat) "AliasStreams$Taking" "digitsBefore" "[I") ∈ zWd := zmem 260 (by decide +kernel) rfl
theorem q261 : (Jvm.Cond.fieldLinkNest "AliasStreams" (310 : Nat) "AliasStreams$Taking" "digitsBefore" "[I" "AliasStreams") ∈ zNs := zmemN 261 (by decide +kernel) rfl
theorem q262 : (Jvm.Cond.fieldLink "AliasStreams$Taking" (21 : Nat) "AliasStreams$Taking" "digitsRemoved" "[I") ∈ zWd := zmem 262 (by decide +kernel) rfl
theorem q263 : (Jvm.Cond.fieldLinkNest "AliasStreams" (313 : Nat) "AliasStreams$Taking" "digitsRemoved" "[I" "AliasStreams") ∈ zNs := zmemN 263 (by decide +kernel) rfl
theorem q264 : (Jvm.Cond.fieldLink "AliasStreams$Taking" (24 : Nat) "AliasStreams$Taking" "heads" "[I") ∈ zWd := zmem 264 (by decide +kernel) rfl
theorem q265 : (Jvm.Cond.fieldLink "AliasStreams$Taking" (34 : Nat) "AliasStreams$Taking" "digitsLeft" "I") ∈ zWd := zmem 265 (by decide +kernel) rfl
theorem q266 : (Jvm.Cond.fieldLink "AliasStreams$Taking" (37 : Nat) "AliasStreams$Taking" "failedAt" "I") ∈ zWd := zmem 266 (by decide +kernel) rfl
theorem q267 : (Jvm.Cond.fieldLinkNest "AliasStreams$Script" (119 : Nat) "AliasStreams$Taking" "failedAt" "I" "AliasStreams") ∈ zNs := zmemN 267 (by decide +kernel) rfl
theorem q268 : (Jvm.Cond.fieldLinkNest "AliasStreams" (270 : Nat) "AliasStreams$Taking" "failedAt" "I" "AliasStreams") ∈ zNs := zmemN 268 (by decide +kernel) rfl
theorem q269 : (Jvm.Cond.fieldLink "AliasStreams$Taking" (56 : Nat) "AliasStreams$Taking" "intact" "Z") ∈ zWd := zmem 269 (by decide +kernel) rfl
theorem q270 : (Jvm.Cond.fieldLinkNest "AliasStreams" (150 : Nat) "AliasStreams$Taking" "intact" "Z" "AliasStreams") ∈ zNs := zmemN 270 (by decide +kernel) rfl
theorem q271 : (Jvm.Cond.fieldLinkNest "AliasStreams$Script" (136 : Nat) "AliasStreams$Taking" "intact" "Z" "AliasStreams") ∈ zNs := zmemN 271 (by decide +kernel) rfl
theorem q289 : (Jvm.Cond.classLink "AliasStreams" (61 : Nat) "AliasStreams$Tape") ∈ zWd := zmem 289 (by decide +kernel) rfl
theorem q290 : (Jvm.Cond.methodLinkNest "AliasStreams" (63 : Nat) ({ cls := "AliasStreams$Tape", name := "<init>", desc := "()V" } : Jvm.MethodName) "AliasStreams") ∈ zNs := zmemN 290 (by decide +kernel) rfl
theorem q291 : (Jvm.Cond.classLink "AliasStreams" (68 : Nat) "AliasStreams$Script") ∈ zWd := zmem 291 (by decide +kernel) rfl
theorem q292 : (Jvm.Cond.instantiable "AliasStreams$Script" (3 : Nat)) ∈ zWd := zmem 292 (by decide +kernel) rfl
theorem q293 : (Jvm.Cond.methodLinkNest "AliasStreams" (70 : Nat) ({ cls := "AliasStreams$Script", name := "<init>", desc := "()V" } : Jvm.MethodName) "AliasStreams") ∈ zNs := zmemN 293 (by decide +kernel) rfl
theorem q294 : (Jvm.Cond.instanceMethod ({ cls := "AliasStreams$Script", name := "<init>", desc := "()V" } : Jvm.MethodName)) ∈ zWd := zmem 294 (by decide +kernel) rfl
theorem q295 : (Jvm.Cond.code ({ cls := "AliasStreams$Script", name := "<init>", desc := "()V" } : Jvm.MethodName) prog_6_method_1_code (1 : Nat) (Option.none : Option Jvm.ClassFile.FieldType)) ∈ zWd := zmem 295 (by decide +kernel) rfl
theorem q296 : (Jvm.Cond.methodLink "AliasStreams$Script" (3 : Nat) ({ cls := "java/lang/Object", name := "<init>", desc := "()V" } : Jvm.MethodName)) ∈ zWd := zmem 296 (by decide +kernel) rfl
theorem q297 : (Jvm.Cond.classLink "AliasStreams$Script" (9 : Nat) "AliasStreams$State") ∈ zWd := zmem 297 (by decide +kernel) rfl
theorem q298 : (Jvm.Cond.methodLinkNest "AliasStreams$Script" (11 : Nat) ({ cls := "AliasStreams$State", name := "<init>", desc := "()V" } : Jvm.MethodName) "AliasStreams") ∈ zNs := zmemN 298 (by decide +kernel) rfl
theorem q299 : (Jvm.Cond.classLink "AliasStreams$Script" (18 : Nat) "AliasStreams$Symbols") ∈ zWd := zmem 299 (by decide +kernel) rfl
theorem q300 : (Jvm.Cond.methodLinkNest "AliasStreams$Script" (20 : Nat) ({ cls := "AliasStreams$Symbols", name := "<init>", desc := "()V" } : Jvm.MethodName) "AliasStreams") ∈ zNs := zmemN 300 (by decide +kernel) rfl
theorem q301 : (Jvm.Cond.classLink "AliasStreams$Script" (25 : Nat) "AliasStreams$Taking") ∈ zWd := zmem 301 (by decide +kernel) rfl
theorem q302 : (Jvm.Cond.methodLinkNest "AliasStreams$Script" (27 : Nat) ({ cls := "AliasStreams$Taking", name := "<init>", desc := "()V" } : Jvm.MethodName) "AliasStreams") ∈ zNs := zmemN 302 (by decide +kernel) rfl
theorem q303 : (Jvm.Cond.fieldLink "AliasStreams$Script" (12 : Nat) "AliasStreams$Script" "copy" "LAliasStreams$State;") ∈ zWd := zmem 303 (by decide +kernel) rfl
theorem q304 : (Jvm.Cond.fieldLink "AliasStreams$Script" (21 : Nat) "AliasStreams$Script" "symbols" "LAliasStreams$Symbols;") ∈ zWd := zmem 304 (by decide +kernel) rfl
theorem q305 : (Jvm.Cond.fieldLink "AliasStreams$Script" (28 : Nat) "AliasStreams$Script" "taking" "LAliasStreams$Taking;") ∈ zWd := zmem 305 (by decide +kernel) rfl
theorem q313 : (Jvm.Cond.methodLinkNest "AliasStreams" (79 : Nat) ({ cls := "AliasStreams$Models", name := "makeAll", desc := "([I)V" } : Jvm.MethodName) "AliasStreams") ∈ zNs := zmemN 313 (by decide +kernel) rfl
theorem q315 : (Jvm.Cond.instanceMethod ({ cls := "AliasStreams$Models", name := "makeAll", desc := "([I)V" } : Jvm.MethodName)) ∈ zWd := zmem 315 (by decide +kernel) rfl
theorem q316 : (Jvm.Cond.code ({ cls := "AliasStreams$Models", name := "makeAll", desc := "([I)V" } : Jvm.MethodName) prog_4_method_6_code (3 : Nat) (Option.none : Option Jvm.ClassFile.FieldType)) ∈ zWd := zmem 316 (by decide +kernel) rfl
theorem q317 : (Jvm.Cond.methodLinkNest "AliasStreams$Models" (32 : Nat) ({ cls := "AliasStreams$Model", name := "make", desc := "([II)V" } : Jvm.MethodName) "AliasStreams") ∈ zNs := zmemN 317 (by decide +kernel) rfl
theorem q319 : (Jvm.Cond.instanceMethod ({ cls := "AliasStreams$Model", name := "make", desc := "([II)V" } : Jvm.MethodName)) ∈ zWd := zmem 319 (by decide +kernel) rfl
theorem q320 : (Jvm.Cond.code ({ cls := "AliasStreams$Model", name := "make", desc := "([II)V" } : Jvm.MethodName) prog_3_method_4_code (6 : Nat) (Option.none : Option Jvm.ClassFile.FieldType)) ∈ zWd := zmem 320 (by decide +kernel) rfl
theorem q321 : (Jvm.Cond.methodLinkNest "AliasStreams$Model" (40 : Nat) ({ cls := "AliasStreams", name := "countIn", desc := "([III)I" } : Jvm.MethodName) "AliasStreams") ∈ zNs := zmemN 321 (by decide +kernel) rfl
theorem q322 : (Jvm.Cond.static ({ cls := "AliasStreams", name := "countIn", desc := "([III)I" } : Jvm.MethodName)) ∈ zWd := zmem 322 (by decide +kernel) rfl
theorem q323 : (Jvm.Cond.code ({ cls := "AliasStreams", name := "countIn", desc := "([III)I" } : Jvm.MethodName) prog_1_method_37_code (4 : Nat) (Option.some Jvm.ClassFile.FieldType.int)) ∈ zWd := zmem 323 (by decide +kernel) rfl
theorem q324 : (Jvm.Cond.methodLink "AliasStreams" (383 : Nat) ({ cls := "AliasStreams", name := "isCountPlace", desc := "(II)Z" } : Jvm.MethodName)) ∈ zWd := zmem 324 (by decide +kernel) rfl
theorem q325 : (Jvm.Cond.static ({ cls := "AliasStreams", name := "isCountPlace", desc := "(II)Z" } : Jvm.MethodName)) ∈ zWd := zmem 325 (by decide +kernel) rfl
theorem q326 : (Jvm.Cond.code ({ cls := "AliasStreams", name := "isCountPlace", desc := "(II)Z" } : Jvm.MethodName) prog_1_method_36_code (2 : Nat) (Option.some Jvm.ClassFile.FieldType.boolean)) ∈ zWd := zmem 326 (by decide +kernel) rfl
theorem q327 : (Jvm.Cond.methodLink "AliasStreams$Model" (44 : Nat) ({ cls := "AliasStreams$Model", name := "shareOut", desc := "([III)I" } : Jvm.MethodName)) ∈ zWd := zmem 327 (by decide +kernel) rfl
theorem q329 : (Jvm.Cond.instanceMethod ({ cls := "AliasStreams$Model", name := "shareOut", desc := "([III)I" } : Jvm.MethodName)) ∈ zWd := zmem 329 (by decide +kernel) rfl
theorem q330 : (Jvm.Cond.code ({ cls := "AliasStreams$Model", name := "shareOut", desc := "([III)I" } : Jvm.MethodName) prog_3_method_5_code (7 : Nat) (Option.some Jvm.ClassFile.FieldType.int)) ∈ zWd := zmem 330 (by decide +kernel) rfl
theorem q331 : (Jvm.Cond.methodLink "AliasStreams$Model" (59 : Nat) ({ cls := "java/lang/Math", name := "max", desc := "(II)I" } : Jvm.MethodName)) ∈ zWd := zmem 331 (by decide +kernel) rfl
theorem q332 : (Jvm.Cond.static ({ cls := "java/lang/Math", name := "max", desc := "(II)I" } : Jvm.MethodName)) ∈ zWd := zmem 332 (by decide +kernel) rfl
theorem q333 : (Jvm.Cond.code ({ cls := "java/lang/Math", name := "max", desc := "(II)I" } : Jvm.MethodName) prog_18_method_65_code (2 : Nat) (Option.some Jvm.ClassFile.FieldType.int)) ∈ zWd := zmem 333 (by decide +kernel) rfl
theorem q334 : (Jvm.Cond.methodLink "AliasStreams$Model" (47 : Nat) ({ cls := "AliasStreams$Model", name := "giveOne", desc := "()V" } : Jvm.MethodName)) ∈ zWd := zmem 334 (by decide +kernel) rfl
theorem q336 : (Jvm.Cond.instanceMethod ({ cls := "AliasStreams$Model", name := "giveOne", desc := "()V" } : Jvm.MethodName)) ∈ zWd := zmem 336 (by decide +kernel) rfl
theorem q337 : (Jvm.Cond.code ({ cls := "AliasStreams$Model", name := "giveOne", desc := "()V" } : Jvm.MethodName) prog_3_method_6_code (4 : Nat) (Option.none : Option Jvm.ClassFile.FieldType)) ∈ zWd := zmem 337 (by decide +kernel) rfl
theorem q338 : (Jvm.Cond.methodLink "AliasStreams$Model" (50 : Nat) ({ cls := "AliasStreams$Model", name := "takeOne", desc := "()V" } : Jvm.MethodName)) ∈ zWd := zmem 338 (by decide +kernel) rfl
theorem q340 : (Jvm.Cond.instanceMethod ({ cls := "AliasStreams$Model", name := "takeOne", desc := "()V" } : Jvm.MethodName)) ∈ zWd := zmem 340 (by decide +kernel) rfl
theorem q341 : (Jvm.Cond.code ({ cls := "AliasStreams$Model", name := "takeOne", desc := "()V" } : Jvm.MethodName) prog_3_method_7_code (3 : Nat) (Option.none : Option Jvm.ClassFile.FieldType)) ∈ zWd := zmem 341 (by decide +kernel) rfl
theorem q342 : (Jvm.Cond.methodLink "AliasStreams$Model" (53 : Nat) ({ cls := "AliasStreams$Model", name := "closeBuckets", desc := "()V" } : Jvm.MethodName)) ∈ zWd := zmem 342 (by decide +kernel) rfl
theorem q344 : (Jvm.Cond.instanceMethod ({ cls := "AliasStreams$Model", name := "closeBuckets", desc := "()V" } : Jvm.MethodName)) ∈ zWd := zmem 344 (by decide +kernel) rfl
theorem q345 : (Jvm.Cond.code ({ cls := "AliasStreams$Model", name := "closeBuckets", desc := "()V" } : Jvm.MethodName) prog_3_method_8_code (2 : Nat) (Option.none : Option Jvm.ClassFile.FieldType)) ∈ zWd := zmem 345 (by decide +kernel) rfl
theorem q346 : (Jvm.Cond.methodLink "AliasStreams$Model" (65 : Nat) ({ cls := "AliasStreams$Model", name := "closeOne", desc := "()V" } : Jvm.MethodName)) ∈ zWd := zmem 346 (by decide +kernel) rfl
theorem q348 : (Jvm.Cond.instanceMethod ({ cls := "AliasStreams$Model", name := "closeOne", desc := "()V" } : Jvm.MethodName)) ∈ zWd := zmem 348 (by decide +kernel) rfl
theorem q349 : (Jvm.Cond.code ({ cls := "AliasStreams$Model", name := "closeOne", desc := "()V" } : Jvm.MethodName) prog_3_method_9_code (4 : Nat) (Option.none : Option Jvm.ClassFile.FieldType)) ∈ zWd := zmem 349 (by decide +kernel) rfl
theorem q350 : (Jvm.Cond.methodLink "AliasStreams$Model" (68 : Nat) ({ cls := "AliasStreams$Model", name := "firstToClose", desc := "()I" } : Jvm.MethodName)) ∈ zWd := zmem 350 (by decide +kernel) rfl
theorem q352 : (Jvm.Cond.instanceMethod ({ cls := "AliasStreams$Model", name := "firstToClose", desc := "()I" } : Jvm.MethodName)) ∈ zWd := zmem 352 (by decide +kernel) rfl
theorem q353 : (Jvm.Cond.code ({ cls := "AliasStreams$Model", name := "firstToClose", desc := "()I" } : Jvm.MethodName) prog_3_method_10_code (2 : Nat) (Option.some Jvm.ClassFile.FieldType.int)) ∈ zWd := zmem 353 (by decide +kernel) rfl
theorem q354 : (Jvm.Cond.methodLink "AliasStreams$Model" (72 : Nat) ({ cls := "AliasStreams$Model", name := "fullestOpen", desc := "()I" } : Jvm.MethodName)) ∈ zWd := zmem 354 (by decide +kernel) rfl
theorem q356 : (Jvm.Cond.instanceMethod ({ cls := "AliasStreams$Model", name := "fullestOpen", desc := "()I" } : Jvm.MethodName)) ∈ zWd := zmem 356 (by decide +kernel) rfl
theorem q357 : (Jvm.Cond.code ({ cls := "AliasStreams$Model", name := "fullestOpen", desc := "()I" } : Jvm.MethodName) prog_3_method_11_code (4 : Nat) (Option.some Jvm.ClassFile.FieldType.int)) ∈ zWd := zmem 357 (by decide +kernel) rfl
theorem q358 : (Jvm.Cond.methodLink "AliasStreams$Model" (56 : Nat) ({ cls := "AliasStreams$Model", name := "numberSlots", desc := "()V" } : Jvm.MethodName)) ∈ zWd := zmem 358 (by decide +kernel) rfl
theorem q360 : (Jvm.Cond.instanceMethod ({ cls := "AliasStreams$Model", name := "numberSlots", desc := "()V" } : Jvm.MethodName)) ∈ zWd := zmem 360 (by decide +kernel) rfl
theorem q361 : (Jvm.Cond.code ({ cls := "AliasStreams$Model", name := "numberSlots", desc := "()V" } : Jvm.MethodName) prog_3_method_12_code (5 : Nat) (Option.none : Option Jvm.ClassFile.FieldType)) ∈ zWd := zmem 361 (by decide +kernel) rfl
theorem q362 : (Jvm.Cond.methodLink "AliasStreams$Model" (75 : Nat) ({ cls := "AliasStreams$Model", name := "enterSlot", desc := "(III)V" } : Jvm.MethodName)) ∈ zWd := zmem 362 (by decide +kernel) rfl
theorem q364 : (Jvm.Cond.instanceMethod ({ cls := "AliasStreams$Model", name := "enterSlot", desc := "(III)V" } : Jvm.MethodName)) ∈ zWd := zmem 364 (by decide +kernel) rfl
theorem q365 : (Jvm.Cond.code ({ cls := "AliasStreams$Model", name := "enterSlot", desc := "(III)V" } : Jvm.MethodName) prog_3_method_13_code (4 : Nat) (Option.none : Option Jvm.ClassFile.FieldType)) ∈ zWd := zmem 365 (by decide +kernel) rfl
theorem q366 : (Jvm.Cond.fieldLink "AliasStreams" (12 : Nat) "AliasStreams" "text" "LAliasStreams$Text;") ∈ zWd := zmem 366 (by decide +kernel) rfl
theorem q367 : (Jvm.Cond.fieldLink "AliasStreams" (19 : Nat) "AliasStreams" "models" "LAliasStreams$Models;") ∈ zWd := zmem 367 (by decide +kernel) rfl
theorem q368 : (Jvm.Cond.fieldLink "AliasStreams" (26 : Nat) "AliasStreams" "now" "LAliasStreams$State;") ∈ zWd := zmem 368 (by decide +kernel) rfl
theorem q369 : (Jvm.Cond.fieldLink "AliasStreams" (33 : Nat) "AliasStreams" "history" "LAliasStreams$History;") ∈ zWd := zmem 369 (by decide +kernel) rfl
theorem q370 : (Jvm.Cond.fieldLink "AliasStreams" (40 : Nat) "AliasStreams" "saves" "LAliasStreams$Saves;") ∈ zWd := zmem 370 (by decide +kernel) rfl
theorem q371 : (Jvm.Cond.fieldLink "AliasStreams" (47 : Nat) "AliasStreams" "symbols" "LAliasStreams$Symbols;") ∈ zWd := zmem 371 (by decide +kernel) rfl
theorem q372 : (Jvm.Cond.fieldLink "AliasStreams" (54 : Nat) "AliasStreams" "taking" "LAliasStreams$Taking;") ∈ zWd := zmem 372 (by decide +kernel) rfl
theorem q373 : (Jvm.Cond.fieldLink "AliasStreams" (58 : Nat) "AliasStreams" "otherTaking" "LAliasStreams$Taking;") ∈ zWd := zmem 373 (by decide +kernel) rfl
theorem q374 : (Jvm.Cond.fieldLink "AliasStreams" (64 : Nat) "AliasStreams" "trialTape" "LAliasStreams$Tape;") ∈ zWd := zmem 374 (by decide +kernel) rfl
theorem q375 : (Jvm.Cond.fieldLink "AliasStreams" (71 : Nat) "AliasStreams" "commands" "LAliasStreams$Script;") ∈ zWd := zmem 375 (by decide +kernel) rfl
theorem q397 : (Jvm.Cond.methodLink "AliasStreamsLaw" (113 : Nat) ({ cls := "AliasStreams", name := "clearText", desc := "()I" } : Jvm.MethodName)) ∈ zWd := zmem 397 (by decide +kernel) rfl
theorem q398 : (Jvm.Cond.instanceMethod ({ cls := "AliasStreams", name := "clearText", desc := "()I" } : Jvm.MethodName)) ∈ zWd := zmem 398 (by decide +kernel) rfl
theorem q399 : (Jvm.Cond.selects "AliasStreams" ({ cls := "AliasStreams", name := "clearText", desc := "()I" } : Jvm.MethodName) ({ cls := "AliasStreams", name := "clearText", desc := "()I" } : Jvm.MethodName)) ∈ zWd := zmem 399 (by decide +kernel) rfl
theorem q400 : (Jvm.Cond.code ({ cls := "AliasStreams", name := "clearText", desc := "()I" } : Jvm.MethodName) prog_1_method_3_code (2 : Nat) (Option.some Jvm.ClassFile.FieldType.int)) ∈ zWd := zmem 400 (by decide +kernel) rfl
theorem q401 : (Jvm.Cond.methodLink "AliasStreamsLaw" (117 : Nat) ({ cls := "AliasStreams", name := "errorPosition", desc := "()I" } : Jvm.MethodName)) ∈ zWd := zmem 401 (by decide +kernel) rfl
theorem q402 : (Jvm.Cond.instanceMethod ({ cls := "AliasStreams", name := "errorPosition", desc := "()I" } : Jvm.MethodName)) ∈ zWd := zmem 402 (by decide +kernel) rfl
theorem q403 : (Jvm.Cond.selects "AliasStreams" ({ cls := "AliasStreams", name := "errorPosition", desc := "()I" } : Jvm.MethodName) ({ cls := "AliasStreams", name := "errorPosition", desc := "()I" } : Jvm.MethodName)) ∈ zWd := zmem 403 (by decide +kernel) rfl
theorem q404 : (Jvm.Cond.code ({ cls := "AliasStreams", name := "errorPosition", desc := "()I" } : Jvm.MethodName) prog_1_method_4_code (1 : Nat) (Option.some Jvm.ClassFile.FieldType.int)) ∈ zWd := zmem 404 (by decide +kernel) rfl
theorem q405 : (Jvm.Cond.methodLinkNest "AliasStreams" (103 : Nat) ({ cls := "AliasStreams$Text", name := "read", desc := "()I" } : Jvm.MethodName) "AliasStreams") ∈ zNs := zmemN 405 (by decide +kernel) rfl
theorem q407 : (Jvm.Cond.instanceMethod ({ cls := "AliasStreams$Text", name := "read", desc := "()I" } : Jvm.MethodName)) ∈ zWd := zmem 407 (by decide +kernel) rfl
theorem q408 : (Jvm.Cond.code ({ cls := "AliasStreams$Text", name := "read", desc := "()I" } : Jvm.MethodName) prog_11_method_3_code (2 : Nat) (Option.some Jvm.ClassFile.FieldType.int)) ∈ zWd := zmem 408 (by decide +kernel) rfl
theorem q409 : (Jvm.Cond.methodLink "AliasStreams$Text" (37 : Nat) ({ cls := "AliasStreams$Text", name := "readSize", desc := "()Z" } : Jvm.MethodName)) ∈ zWd := zmem 409 (by decide +kernel) rfl
theorem q411 : (Jvm.Cond.instanceMethod ({ cls := "AliasStreams$Text", name := "readSize", desc := "()Z" } : Jvm.MethodName)) ∈ zWd := zmem 411 (by decide +kernel) rfl
theorem q412 : (Jvm.Cond.code ({ cls := "AliasStreams$Text", name := "readSize", desc := "()Z" } : Jvm.MethodName) prog_11_method_6_code (1 : Nat) (Option.some Jvm.ClassFile.FieldType.boolean)) ∈ zWd := zmem 412 (by decide +kernel) rfl
theorem q413 : (Jvm.Cond.methodLink "AliasStreams$Text" (47 : Nat) ({ cls := "AliasStreams$Text", name := "here", desc := "()I" } : Jvm.MethodName)) ∈ zWd := zmem 413 (by decide +kernel) rfl
theorem q415 : (Jvm.Cond.instanceMethod ({ cls := "AliasStreams$Text", name := "here", desc := "()I" } : Jvm.MethodName)) ∈ zWd := zmem 415 (by decide +kernel) rfl
theorem q416 : (Jvm.Cond.code ({ cls := "AliasStreams$Text", name := "here", desc := "()I" } : Jvm.MethodName) prog_11_method_4_code (1 : Nat) (Option.some Jvm.ClassFile.FieldType.int)) ∈ zWd := zmem 416 (by decide +kernel) rfl
theorem q417 : (Jvm.Cond.methodLink "AliasStreams$Text" (51 : Nat) ({ cls := "AliasStreams$Text", name := "digitHere", desc := "()I" } : Jvm.MethodName)) ∈ zWd := zmem 417 (by decide +kernel) rfl
theorem q419 : (Jvm.Cond.instanceMethod ({ cls := "AliasStreams$Text", name := "digitHere", desc := "()I" } : Jvm.MethodName)) ∈ zWd := zmem 419 (by decide +kernel) rfl
theorem q420 : (Jvm.Cond.code ({ cls := "AliasStreams$Text", name := "digitHere", desc := "()I" } : Jvm.MethodName) prog_11_method_5_code (2 : Nat) (Option.some Jvm.ClassFile.FieldType.int)) ∈ zWd := zmem 420 (by decide +kernel) rfl
theorem q421 : (Jvm.Cond.methodLink "AliasStreams$Text" (41 : Nat) ({ cls := "AliasStreams$Text", name := "readModels", desc := "()Z" } : Jvm.MethodName)) ∈ zWd := zmem 421 (by decide +kernel) rfl
theorem q423 : (Jvm.Cond.instanceMethod ({ cls := "AliasStreams$Text", name := "readModels", desc := "()Z" } : Jvm.MethodName)) ∈ zWd := zmem 423 (by decide +kernel) rfl
theorem q424 : (Jvm.Cond.code ({ cls := "AliasStreams$Text", name := "readModels", desc := "()Z" } : Jvm.MethodName) prog_11_method_7_code (2 : Nat) (Option.some Jvm.ClassFile.FieldType.boolean)) ∈ zWd := zmem 424 (by decide +kernel) rfl
theorem q425 : (Jvm.Cond.methodLink "AliasStreams$Text" (54 : Nat) ({ cls := "AliasStreams$Text", name := "readCounts", desc := "(I)Z" } : Jvm.MethodName)) ∈ zWd := zmem 425 (by decide +kernel) rfl
theorem q427 : (Jvm.Cond.instanceMethod ({ cls := "AliasStreams$Text", name := "readCounts", desc := "(I)Z" } : Jvm.MethodName)) ∈ zWd := zmem 427 (by decide +kernel) rfl
theorem q428 : (Jvm.Cond.code ({ cls := "AliasStreams$Text", name := "readCounts", desc := "(I)Z" } : Jvm.MethodName) prog_11_method_8_code (7 : Nat) (Option.some Jvm.ClassFile.FieldType.boolean)) ∈ zWd := zmem 428 (by decide +kernel) rfl
theorem q429 : (Jvm.Cond.methodLink "AliasStreams$Text" (44 : Nat) ({ cls := "AliasStreams$Text", name := "readItems", desc := "()Z" } : Jvm.MethodName)) ∈ zWd := zmem 429 (by decide +kernel) rfl
theorem q431 : (Jvm.Cond.instanceMethod ({ cls := "AliasStreams$Text", name := "readItems", desc := "()Z" } : Jvm.MethodName)) ∈ zWd := zmem 431 (by decide +kernel) rfl
theorem q432 : (Jvm.Cond.code ({ cls := "AliasStreams$Text", name := "readItems", desc := "()Z" } : Jvm.MethodName) prog_11_method_9_code (3 : Nat) (Option.some Jvm.ClassFile.FieldType.boolean)) ∈ zWd := zmem 432 (by decide +kernel) rfl
theorem q433 : (Jvm.Cond.methodLink "AliasStreams$Text" (58 : Nat) ({ cls := "AliasStreams$Text", name := "itemHere", desc := "()I" } : Jvm.MethodName)) ∈ zWd := zmem 433 (by decide +kernel) rfl
theorem q435 : (Jvm.Cond.instanceMethod ({ cls := "AliasStreams$Text", name := "itemHere", desc := "()I" } : Jvm.MethodName)) ∈ zWd := zmem 435 (by decide +kernel) rfl
theorem q436 : (Jvm.Cond.code ({ cls := "AliasStreams$Text", name := "itemHere", desc := "()I" } : Jvm.MethodName) prog_11_method_10_code (2 : Nat) (Option.some Jvm.ClassFile.FieldType.int)) ∈ zWd := zmem 436 (by decide +kernel) rfl
theorem q437 : (Jvm.Cond.methodLink "AliasStreamsLaw" (175 : Nat) ({ cls := "AliasStreams", name := "failure", desc := "()I" } : Jvm.MethodName)) ∈ zWd := zmem 437 (by decide +kernel) rfl
theorem q438 : (Jvm.Cond.instanceMethod ({ cls := "AliasStreams", name := "failure", desc := "()I" } : Jvm.MethodName)) ∈ zWd := zmem 438 (by decide +kernel) rfl
theorem q439 : (Jvm.Cond.selects "AliasStreams" ({ cls := "AliasStreams", name := "failure", desc := "()I" } : Jvm.MethodName) ({ cls := "AliasStreams", name := "failure", desc := "()I" } : Jvm.MethodName)) ∈ zWd := zmem 439 (by decide +kernel) rfl
theorem q440 : (Jvm.Cond.code ({ cls := "AliasStreams", name := "failure", desc := "()I" } : Jvm.MethodName) prog_1_method_22_code (1 : Nat) (Option.some Jvm.ClassFile.FieldType.int)) ∈ zWd := zmem 440 (by decide +kernel) rfl
theorem q441 : (Jvm.Cond.methodLinkNest "AliasStreams" (146 : Nat) ({ cls := "AliasStreams$Taking", name := "takeAll", desc := "(LAliasStreams$Tape;LAliasStreams$Models;)V" } : Jvm.MethodName) "AliasStreams") ∈ zNs := zmemN 441 (by decide +kernel) rfl
theorem q443 : (Jvm.Cond.instanceMethod ({ cls := "AliasStreams$Taking", name := "takeAll", desc := "(LAliasStreams$Tape;LAliasStreams$Models;)V" } : Jvm.MethodName)) ∈ zWd := zmem 443 (by decide +kernel) rfl
theorem q444 : (Jvm.Cond.code ({ cls := "AliasStreams$Taking", name := "takeAll", desc := "(LAliasStreams$Tape;LAliasStreams$Models;)V" } : Jvm.MethodName) prog_9_method_2_code (4 : Nat) (Option.none : Option Jvm.ClassFile.FieldType)) ∈ zWd := zmem 444 (by decide +kernel) rfl
theorem q445 : (Jvm.Cond.methodLinkNest "AliasStreams$Taking" (46 : Nat) ({ cls := "AliasStreams$Models", name := "of", desc := "(I)LAliasStreams$Model;" } : Jvm.MethodName) "AliasStreams") ∈ zNs := zmemN 445 (by decide +kernel) rfl
theorem q447 : (Jvm.Cond.instanceMethod ({ cls := "AliasStreams$Models", name := "of", desc := "(I)LAliasStreams$Model;" } : Jvm.MethodName)) ∈ zWd := zmem 447 (by decide +kernel) rfl
theorem q448 : (Jvm.Cond.code ({ cls := "AliasStreams$Models", name := "of", desc := "(I)LAliasStreams$Model;" } : Jvm.MethodName) prog_4_method_5_code (2 : Nat) (Option.some (Jvm.ClassFile.FieldType.object "AliasStreams$Model"))) ∈ zWd := zmem 448 (by decide +kernel) rfl
theorem q449 : (Jvm.Cond.methodLink "AliasStreams$Taking" (52 : Nat) ({ cls := "AliasStreams$Taking", name := "takeSymbol", desc := "(LAliasStreams$Tape;LAliasStreams$Model;I)V" } : Jvm.MethodName)) ∈ zWd := zmem 449 (by decide +kernel) rfl
theorem q451 : (Jvm.Cond.instanceMethod ({ cls := "AliasStreams$Taking", name := "takeSymbol", desc := "(LAliasStreams$Tape;LAliasStreams$Model;I)V" } : Jvm.MethodName)) ∈ zWd := zmem 451 (by decide +kernel) rfl
theorem q452 : (Jvm.Cond.code ({ cls := "AliasStreams$Taking", name := "takeSymbol", desc := "(LAliasStreams$Tape;LAliasStreams$Model;I)V" } : Jvm.MethodName) prog_9_method_3_code (8 : Nat) (Option.none : Option Jvm.ClassFile.FieldType)) ∈ zWd := zmem 452 (by decide +kernel) rfl
theorem q453 : (Jvm.Cond.methodLinkNest "AliasStreams$Taking" (65 : Nat) ({ cls := "AliasStreams$Model", name := "frequencyOf", desc := "(I)I" } : Jvm.MethodName) "AliasStreams") ∈ zNs := zmemN 453 (by decide +kernel) rfl
theorem q455 : (Jvm.Cond.instanceMethod ({ cls := "AliasStreams$Model", name := "frequencyOf", desc := "(I)I" } : Jvm.MethodName)) ∈ zWd := zmem 455 (by decide +kernel) rfl
theorem q456 : (Jvm.Cond.code ({ cls := "AliasStreams$Model", name := "frequencyOf", desc := "(I)I" } : Jvm.MethodName) prog_3_method_2_code (2 : Nat) (Option.some Jvm.ClassFile.FieldType.int)) ∈ zWd := zmem 456 (by decide +kernel) rfl
theorem q457 : (Jvm.Cond.methodLinkNest "AliasStreams$Taking" (72 : Nat) ({ cls := "AliasStreams$Tape", name := "hasDigit", desc := "(I)Z" } : Jvm.MethodName) "AliasStreams") ∈ zNs := zmemN 457 (by decide +kernel) rfl
theorem q459 : (Jvm.Cond.instanceMethod ({ cls := "AliasStreams$Tape", name := "hasDigit", desc := "(I)Z" } : Jvm.MethodName)) ∈ zWd := zmem 459 (by decide +kernel) rfl
theorem q460 : (Jvm.Cond.code ({ cls := "AliasStreams$Tape", name := "hasDigit", desc := "(I)Z" } : Jvm.MethodName) prog_10_method_3_code (2 : Nat) (Option.some Jvm.ClassFile.FieldType.boolean)) ∈ zWd := zmem 460 (by decide +kernel) rfl
theorem q461 : (Jvm.Cond.methodLink "AliasStreamsLaw" (179 : Nat) ({ cls := "AliasStreams", name := "unfit", desc := "()I" } : Jvm.MethodName)) ∈ zWd := zmem 461 (by decide +kernel) rfl
theorem q462 : (Jvm.Cond.instanceMethod ({ cls := "AliasStreams", name := "unfit", desc := "()I" } : Jvm.MethodName)) ∈ zWd := zmem 462 (by decide +kernel) rfl
theorem q463 : (Jvm.Cond.selects "AliasStreams" ({ cls := "AliasStreams", name := "unfit", desc := "()I" } : Jvm.MethodName) ({ cls := "AliasStreams", name := "unfit", desc := "()I" } : Jvm.MethodName)) ∈ zWd := zmem 463 (by decide +kernel) rfl
theorem q464 : (Jvm.Cond.code ({ cls := "AliasStreams", name := "unfit", desc := "()I" } : Jvm.MethodName) prog_1_method_23_code (1 : Nat) (Option.some Jvm.ClassFile.FieldType.int)) ∈ zWd := zmem 464 (by decide +kernel) rfl
theorem q465 : (Jvm.Cond.methodLinkNest "AliasStreams" (130 : Nat) ({ cls := "AliasStreams$Symbols", name := "list", desc := "(LAliasStreams$State;)V" } : Jvm.MethodName) "AliasStreams") ∈ zNs := zmemN 465 (by decide +kernel) rfl
theorem q467 : (Jvm.Cond.instanceMethod ({ cls := "AliasStreams$Symbols", name := "list", desc := "(LAliasStreams$State;)V" } : Jvm.MethodName)) ∈ zWd := zmem 467 (by decide +kernel) rfl
theorem q468 : (Jvm.Cond.code ({ cls := "AliasStreams$Symbols", name := "list", desc := "(LAliasStreams$State;)V" } : Jvm.MethodName) prog_8_method_2_code (6 : Nat) (Option.none : Option Jvm.ClassFile.FieldType)) ∈ zWd := zmem 468 (by decide +kernel) rfl
theorem q469 : (Jvm.Cond.methodLinkNest "AliasStreams" (260 : Nat) ({ cls := "AliasStreams$Symbols", name := "firstUnfit", desc := "(LAliasStreams$Models;)I" } : Jvm.MethodName) "AliasStreams") ∈ zNs := zmemN 469 (by decide +kernel) rfl
theorem q471 : (Jvm.Cond.instanceMethod ({ cls := "AliasStreams$Symbols", name := "firstUnfit", desc := "(LAliasStreams$Models;)I" } : Jvm.MethodName)) ∈ zWd := zmem 471 (by decide +kernel) rfl
theorem q472 : (Jvm.Cond.code ({ cls := "AliasStreams$Symbols", name := "firstUnfit", desc := "(LAliasStreams$Models;)I" } : Jvm.MethodName) prog_8_method_5_code (3 : Nat) (Option.some Jvm.ClassFile.FieldType.int)) ∈ zWd := zmem 472 (by decide +kernel) rfl
theorem q473 : (Jvm.Cond.methodLinkNest "AliasStreams$Symbols" (30 : Nat) ({ cls := "AliasStreams$Models", name := "of", desc := "(I)LAliasStreams$Model;" } : Jvm.MethodName) "AliasStreams") ∈ zNs := zmemN 473 (by decide +kernel) rfl
theorem q474 : (Jvm.Cond.methodLinkNest "AliasStreams$Symbols" (36 : Nat) ({ cls := "AliasStreams$Model", name := "frequencyOf", desc := "(I)I" } : Jvm.MethodName) "AliasStreams") ∈ zNs := zmemN 474 (by decide +kernel) rfl
theorem q475 : (Jvm.Cond.methodLink "AliasStreamsLaw" (192 : Nat) ({ cls := "AliasStreams", name := "difference", desc := "()I" } : Jvm.MethodName)) ∈ zWd := zmem 475 (by decide +kernel) rfl
theorem q476 : (Jvm.Cond.instanceMethod ({ cls := "AliasStreams", name := "difference", desc := "()I" } : Jvm.MethodName)) ∈ zWd := zmem 476 (by decide +kernel) rfl
theorem q477 : (Jvm.Cond.selects "AliasStreams" ({ cls := "AliasStreams", name := "difference", desc := "()I" } : Jvm.MethodName) ({ cls := "AliasStreams", name := "difference", desc := "()I" } : Jvm.MethodName)) ∈ zWd := zmem 477 (by decide +kernel) rfl
theorem q478 : (Jvm.Cond.code ({ cls := "AliasStreams", name := "difference", desc := "()I" } : Jvm.MethodName) prog_1_method_27_code (3 : Nat) (Option.some Jvm.ClassFile.FieldType.int)) ∈ zWd := zmem 478 (by decide +kernel) rfl
theorem q479 : (Jvm.Cond.methodLinkNest "AliasStreams" (321 : Nat) ({ cls := "AliasStreams$Symbols", name := "has", desc := "(I)Z" } : Jvm.MethodName) "AliasStreams") ∈ zNs := zmemN 479 (by decide +kernel) rfl
theorem q481 : (Jvm.Cond.instanceMethod ({ cls := "AliasStreams$Symbols", name := "has", desc := "(I)Z" } : Jvm.MethodName)) ∈ zWd := zmem 481 (by decide +kernel) rfl
theorem q482 : (Jvm.Cond.code ({ cls := "AliasStreams$Symbols", name := "has", desc := "(I)Z" } : Jvm.MethodName) prog_8_method_3_code (2 : Nat) (Option.some Jvm.ClassFile.FieldType.boolean)) ∈ zWd := zmem 482 (by decide +kernel) rfl
theorem q483 : (Jvm.Cond.methodLink "AliasStreamsLaw" (104 : Nat) ({ cls := "AliasStreamsLaw", name := "append", desc := "(LAliasStreams;I[J)I" } : Jvm.MethodName)) ∈ zWd := zmem 483 (by decide +kernel) rfl
theorem q484 : (Jvm.Cond.static ({ cls := "AliasStreamsLaw", name := "append", desc := "(LAliasStreams;I[J)I" } : Jvm.MethodName)) ∈ zWd := zmem 484 (by decide +kernel) rfl
theorem q486 : (Jvm.Cond.classLink "AliasStreamsLaw" (13 : Nat) "java/lang/IllegalArgumentException") ∈ zWd := zmem 486 (by decide +kernel) rfl
theorem q487 : (Jvm.Cond.classLink "AliasStreamsLaw" (15 : Nat) "java/lang/IllegalStateException") ∈ zWd := zmem 487 (by decide +kernel) rfl
theorem q488 : (Jvm.Cond.methodLink "AliasStreamsLaw" (7 : Nat) ({ cls := "AliasStreams", name := "append", desc := "(I)I" } : Jvm.MethodName)) ∈ zWd := zmem 488 (by decide +kernel) rfl
theorem q489 : (Jvm.Cond.instanceMethod ({ cls := "AliasStreams", name := "append", desc := "(I)I" } : Jvm.MethodName)) ∈ zWd := zmem 489 (by decide +kernel) rfl
theorem q490 : (Jvm.Cond.selects "AliasStreams" ({ cls := "AliasStreams", name := "append", desc := "(I)I" } : Jvm.MethodName) ({ cls := "AliasStreams", name := "append", desc := "(I)I" } : Jvm.MethodName)) ∈ zWd := zmem 490 (by decide +kernel) rfl
theorem q491 : (Jvm.Cond.code ({ cls := "AliasStreams", name := "append", desc := "(I)I" } : Jvm.MethodName) prog_1_method_2_code (2 : Nat) (Option.some Jvm.ClassFile.FieldType.int)) ∈ zWd := zmem 491 (by decide +kernel) rfl
theorem q492 : (Jvm.Cond.classLink "AliasStreams" (83 : Nat) "java/lang/IllegalArgumentException") ∈ zWd := zmem 492 (by decide +kernel) rfl
theorem q493 : (Jvm.Cond.instantiable "java/lang/IllegalArgumentException" (6 : Nat)) ∈ zWd := zmem 493 (by decide +kernel) rfl
theorem q501 : (Jvm.Cond.selects "java/lang/IllegalArgumentException" ({ cls := "java/lang/Throwable", name := "fillInStackTrace", desc := "(I)Ljava/lang/Throwable;" } : Jvm.MethodName) ({ cls := "java/lang/Throwable", name := "fillInStackTrace", desc := "(I)Ljava/lang/Throwable;" } : Jvm.MethodName)) ∈ zWd := zmem 501 (by decide +kernel) rfl
theorem q502 : (Jvm.Cond.selects "java/lang/IllegalArgumentException" ({ cls := "java/lang/Throwable", name := "fillInStackTrace", desc := "()Ljava/lang/Throwable;" } : Jvm.MethodName) ({ cls := "java/lang/Throwable", name := "fillInStackTrace", desc := "()Ljava/lang/Throwable;" } : Jvm.MethodName)) ∈ zWd := zmem 502 (by decide +kernel) rfl
theorem q513 : (Jvm.Cond.fieldLink "java/lang/Throwable" (198 : Nat) "java/lang/Throwable" "backtrace" "Ljava/lang/Object;") ∈ zWd := zmem 513 (by decide +kernel) rfl
theorem q515 : (Jvm.Cond.instanceMethod ({ cls := "java/lang/Throwable", name := "<init>", desc := "()V" } : Jvm.MethodName)) ∈ zWd := zmem 515 (by decide +kernel) rfl
theorem q516 : (Jvm.Cond.code ({ cls := "java/lang/Throwable", name := "<init>", desc := "()V" } : Jvm.MethodName) prog_22_method_1_code (1 : Nat) (Option.none : Option Jvm.ClassFile.FieldType)) ∈ zWd := zmem 516 (by decide +kernel) rfl
theorem q517 : (Jvm.Cond.methodLink "java/lang/Throwable" (1 : Nat) ({ cls := "java/lang/Object", name := "<init>", desc := "()V" } : Jvm.MethodName)) ∈ zWd := zmem 517 (by decide +kernel) rfl
theorem q518 : (Jvm.Cond.fieldLink "java/lang/Throwable" (13 : Nat) "java/lang/Throwable" "UNASSIGNED_STACK" "[Ljava/lang/StackTraceElement;") ∈ zWd := zmem 518 (by decide +kernel) rfl
theorem q520 : (Jvm.Cond.fieldLink "java/lang/Throwable" (20 : Nat) "java/lang/Throwable" "SUPPRESSED_SENTINEL" "Ljava/util/List;") ∈ zWd := zmem 520 (by decide +kernel) rfl
theorem q522 : (Jvm.Cond.methodLink "java/lang/Throwable" (27 : Nat) ({ cls := "java/lang/Throwable", name := "fillInStackTrace", desc := "()Ljava/lang/Throwable;" } : Jvm.MethodName)) ∈ zWd := zmem 522 (by decide +kernel) rfl
theorem q523 : (Jvm.Cond.instanceMethod ({ cls := "java/lang/Throwable", name := "fillInStackTrace", desc := "()Ljava/lang/Throwable;" } : Jvm.MethodName)) ∈ zWd := zmem 523 (by decide +kernel) rfl
theorem q525 : (Jvm.Cond.selects "java/lang/IllegalStateException" ({ cls := "java/lang/Throwable", name := "fillInStackTrace", desc := "()Ljava/lang/Throwable;" } : Jvm.MethodName) ({ cls := "java/lang/Throwable", name := "fillInStackTrace", desc := "()Ljava/lang/Throwable;" } : Jvm.MethodName)) ∈ zWd := zmem 525 (by decide +kernel) rfl
theorem q526 : (Jvm.Cond.selects "java/lang/IndexOutOfBoundsException" ({ cls := "java/lang/Throwable", name := "fillInStackTrace", desc := "()Ljava/lang/Throwable;" } : Jvm.MethodName) ({ cls := "java/lang/Throwable", name := "fillInStackTrace", desc := "()Ljava/lang/Throwable;" } : Jvm.MethodName)) ∈ zWd := zmem 526 (by decide +kernel) rfl
theorem q528 : (Jvm.Cond.methodLink "java/lang/Throwable" (202 : Nat) ({ cls := "java/lang/Throwable", name := "fillInStackTrace", desc := "(I)Ljava/lang/Throwable;" } : Jvm.MethodName)) ∈ zWd := zmem 528 (by decide +kernel) rfl
theorem q530 : (Jvm.Cond.instanceMethod ({ cls := "java/lang/Throwable", name := "fillInStackTrace", desc := "(I)Ljava/lang/Throwable;" } : Jvm.MethodName)) ∈ zWd := zmem 530 (by decide +kernel) rfl
theorem q531 : (Jvm.Cond.instantiable "java/lang/Throwable" (6 : Nat)) ∈ zWd := zmem 531 (by decide +kernel) rfl
theorem q532 : (Jvm.Cond.native ({ cls := "java/lang/Throwable", name := "fillInStackTrace", desc := "(I)Ljava/lang/Throwable;" } : Jvm.MethodName)) ∈ zWd := zmem 532 (by decide +kernel) rfl
theorem q534 : (Jvm.Cond.methodLink "AliasStreams" (87 : Nat) ({ cls := "java/lang/IllegalArgumentException", name := "<init>", desc := "(Ljava/lang/String;)V" } : Jvm.MethodName)) ∈ zWd := zmem 534 (by decide +kernel) rfl
theorem q535 : (Jvm.Cond.instanceMethod ({ cls := "java/lang/IllegalArgumentException", name := "<init>", desc := "(Ljava/lang/String;)V" } : Jvm.MethodName)) ∈ zWd := zmem 535 (by decide +kernel) rfl
theorem q536 : (Jvm.Cond.code ({ cls := "java/lang/IllegalArgumentException", name := "<init>", desc := "(Ljava/lang/String;)V" } : Jvm.MethodName) prog_15_method_2_code (2 : Nat) (Option.none : Option Jvm.ClassFile.FieldType)) ∈ zWd := zmem 536 (by decide +kernel) rfl
theorem q537 : (Jvm.Cond.methodLink "java/lang/IllegalArgumentException" (7 : Nat) ({ cls := "java/lang/RuntimeException", name := "<init>", desc := "(Ljava/lang/String;)V" } : Jvm.MethodName)) ∈ zWd := zmem 537 (by decide +kernel) rfl
theorem q538 : (Jvm.Cond.instanceMethod ({ cls := "java/lang/RuntimeException", name := "<init>", desc := "(Ljava/lang/String;)V" } : Jvm.MethodName)) ∈ zWd := zmem 538 (by decide +kernel) rfl
theorem q539 : (Jvm.Cond.code ({ cls := "java/lang/RuntimeException", name := "<init>", desc := "(Ljava/lang/String;)V" } : Jvm.MethodName) prog_19_method_2_code (2 : Nat) (Option.none : Option Jvm.ClassFile.FieldType)) ∈ zWd := zmem 539 (by decide +kernel) rfl
theorem q540 : (Jvm.Cond.methodLink "java/lang/RuntimeException" (7 : Nat) ({ cls := "java/lang/Exception", name := "<init>", desc := "(Ljava/lang/String;)V" } : Jvm.MethodName)) ∈ zWd := zmem 540 (by decide +kernel) rfl
theorem q541 : (Jvm.Cond.instanceMethod ({ cls := "java/lang/Exception", name := "<init>", desc := "(Ljava/lang/String;)V" } : Jvm.MethodName)) ∈ zWd := zmem 541 (by decide +kernel) rfl
theorem q542 : (Jvm.Cond.code ({ cls := "java/lang/Exception", name := "<init>", desc := "(Ljava/lang/String;)V" } : Jvm.MethodName) prog_14_method_2_code (2 : Nat) (Option.none : Option Jvm.ClassFile.FieldType)) ∈ zWd := zmem 542 (by decide +kernel) rfl
theorem q543 : (Jvm.Cond.methodLink "java/lang/Exception" (7 : Nat) ({ cls := "java/lang/Throwable", name := "<init>", desc := "(Ljava/lang/String;)V" } : Jvm.MethodName)) ∈ zWd := zmem 543 (by decide +kernel) rfl
theorem q544 : (Jvm.Cond.instanceMethod ({ cls := "java/lang/Throwable", name := "<init>", desc := "(Ljava/lang/String;)V" } : Jvm.MethodName)) ∈ zWd := zmem 544 (by decide +kernel) rfl
theorem q545 : (Jvm.Cond.code ({ cls := "java/lang/Throwable", name := "<init>", desc := "(Ljava/lang/String;)V" } : Jvm.MethodName) prog_22_method_2_code (2 : Nat) (Option.none : Option Jvm.ClassFile.FieldType)) ∈ zWd := zmem 545 (by decide +kernel) rfl
theorem q547 : (Jvm.Cond.fieldLink "java/lang/Throwable" (31 : Nat) "java/lang/Throwable" "detailMessage" "Ljava/lang/String;") ∈ zWd := zmem 547 (by decide +kernel) rfl
theorem q548 : (Jvm.Cond.fieldLink "java/lang/Throwable" (7 : Nat) "java/lang/Throwable" "cause" "Ljava/lang/Throwable;") ∈ zWd := zmem 548 (by decide +kernel) rfl
theorem q549 : (Jvm.Cond.fieldLink "java/lang/Throwable" (17 : Nat) "java/lang/Throwable" "stackTrace" "[Ljava/lang/StackTraceElement;") ∈ zWd := zmem 549 (by decide +kernel) rfl
theorem q550 : (Jvm.Cond.fieldLink "java/lang/Throwable" (24 : Nat) "java/lang/Throwable" "suppressedExceptions" "Ljava/util/List;") ∈ zWd := zmem 550 (by decide +kernel) rfl
theorem q559 : (Jvm.Cond.arrayClass Jvm.ClassFile.FieldType.byte) ∈ zWd := zmem 559 (by decide +kernel) rfl
theorem q560 : (Jvm.Cond.classLink "AliasStreams" (94 : Nat) "java/lang/IllegalStateException") ∈ zWd := zmem 560 (by decide +kernel) rfl
theorem q561 : (Jvm.Cond.instantiable "java/lang/IllegalStateException" (6 : Nat)) ∈ zWd := zmem 561 (by decide +kernel) rfl
theorem q563 : (Jvm.Cond.selects "java/lang/IllegalStateException" ({ cls := "java/lang/Throwable", name := "fillInStackTrace", desc := "(I)Ljava/lang/Throwable;" } : Jvm.MethodName) ({ cls := "java/lang/Throwable", name := "fillInStackTrace", desc := "(I)Ljava/lang/Throwable;" } : Jvm.MethodName)) ∈ zWd := zmem 563 (by decide +kernel) rfl
theorem q570 : (Jvm.Cond.methodLink "AliasStreams" (98 : Nat) ({ cls := "java/lang/IllegalStateException", name := "<init>", desc := "(Ljava/lang/String;)V" } : Jvm.MethodName)) ∈ zWd := zmem 570 (by decide +kernel) rfl
theorem q571 : (Jvm.Cond.instanceMethod ({ cls := "java/lang/IllegalStateException", name := "<init>", desc := "(Ljava/lang/String;)V" } : Jvm.MethodName)) ∈ zWd := zmem 571 (by decide +kernel) rfl
theorem q572 : (Jvm.Cond.code ({ cls := "java/lang/IllegalStateException", name := "<init>", desc := "(Ljava/lang/String;)V" } : Jvm.MethodName) prog_16_method_2_code (2 : Nat) (Option.none : Option Jvm.ClassFile.FieldType)) ∈ zWd := zmem 572 (by decide +kernel) rfl
theorem q573 : (Jvm.Cond.methodLink "java/lang/IllegalStateException" (7 : Nat) ({ cls := "java/lang/RuntimeException", name := "<init>", desc := "(Ljava/lang/String;)V" } : Jvm.MethodName)) ∈ zWd := zmem 573 (by decide +kernel) rfl
theorem q576 : (Jvm.Cond.methodLinkNest "AliasStreams" (99 : Nat) ({ cls := "AliasStreams$Text", name := "add", desc := "(I)V" } : Jvm.MethodName) "AliasStreams") ∈ zNs := zmemN 576 (by decide +kernel) rfl
theorem q578 : (Jvm.Cond.instanceMethod ({ cls := "AliasStreams$Text", name := "add", desc := "(I)V" } : Jvm.MethodName)) ∈ zWd := zmem 578 (by decide +kernel) rfl
theorem q579 : (Jvm.Cond.code ({ cls := "AliasStreams$Text", name := "add", desc := "(I)V" } : Jvm.MethodName) prog_11_method_2_code (2 : Nat) (Option.none : Option Jvm.ClassFile.FieldType)) ∈ zWd := zmem 579 (by decide +kernel) rfl
theorem q580 : (Jvm.Cond.methodLink "AliasStreamsLaw" (121 : Nat) ({ cls := "AliasStreamsLaw", name := "load", desc := "(LAliasStreams;[J)I" } : Jvm.MethodName)) ∈ zWd := zmem 580 (by decide +kernel) rfl
theorem q581 : (Jvm.Cond.static ({ cls := "AliasStreamsLaw", name := "load", desc := "(LAliasStreams;[J)I" } : Jvm.MethodName)) ∈ zWd := zmem 581 (by decide +kernel) rfl
theorem q583 : (Jvm.Cond.methodLink "AliasStreamsLaw" (17 : Nat) ({ cls := "AliasStreams", name := "load", desc := "()I" } : Jvm.MethodName)) ∈ zWd := zmem 583 (by decide +kernel) rfl
theorem q584 : (Jvm.Cond.instanceMethod ({ cls := "AliasStreams", name := "load", desc := "()I" } : Jvm.MethodName)) ∈ zWd := zmem 584 (by decide +kernel) rfl
theorem q585 : (Jvm.Cond.selects "AliasStreams" ({ cls := "AliasStreams", name := "load", desc := "()I" } : Jvm.MethodName) ({ cls := "AliasStreams", name := "load", desc := "()I" } : Jvm.MethodName)) ∈ zWd := zmem 585 (by decide +kernel) rfl
theorem q586 : (Jvm.Cond.code ({ cls := "AliasStreams", name := "load", desc := "()I" } : Jvm.MethodName) prog_1_method_5_code (1 : Nat) (Option.some Jvm.ClassFile.FieldType.int)) ∈ zWd := zmem 586 (by decide +kernel) rfl
theorem q588 : (Jvm.Cond.methodLinkNest "AliasStreams" (117 : Nat) ({ cls := "AliasStreams$State", name := "begin", desc := "(LAliasStreams$Text;)V" } : Jvm.MethodName) "AliasStreams") ∈ zNs := zmemN 588 (by decide +kernel) rfl
theorem q590 : (Jvm.Cond.instanceMethod ({ cls := "AliasStreams$State", name := "begin", desc := "(LAliasStreams$Text;)V" } : Jvm.MethodName)) ∈ zWd := zmem 590 (by decide +kernel) rfl
theorem q591 : (Jvm.Cond.code ({ cls := "AliasStreams$State", name := "begin", desc := "(LAliasStreams$Text;)V" } : Jvm.MethodName) prog_7_method_3_code (2 : Nat) (Option.none : Option Jvm.ClassFile.FieldType)) ∈ zWd := zmem 591 (by decide +kernel) rfl
theorem q592 : (Jvm.Cond.methodLink "AliasStreams$State" (25 : Nat) ({ cls := "java/lang/System", name := "arraycopy", desc := "(Ljava/lang/Object;ILjava/lang/Object;II)V" } : Jvm.MethodName)) ∈ zWd := zmem 592 (by decide +kernel) rfl
theorem q593 : (Jvm.Cond.static ({ cls := "java/lang/System", name := "arraycopy", desc := "(Ljava/lang/Object;ILjava/lang/Object;II)V" } : Jvm.MethodName)) ∈ zWd := zmem 593 (by decide +kernel) rfl
theorem q594 : (Jvm.Cond.native ({ cls := "java/lang/System", name := "arraycopy", desc := "(Ljava/lang/Object;ILjava/lang/Object;II)V" } : Jvm.MethodName)) ∈ zWd := zmem 594 (by decide +kernel) rfl
theorem q595 : (Jvm.Cond.methodLinkNest "AliasStreams$State" (44 : Nat) ({ cls := "AliasStreams$Tape", name := "becomeEmpty", desc := "()V" } : Jvm.MethodName) "AliasStreams") ∈ zNs := zmemN 595 (by decide +kernel) rfl
theorem q597 : (Jvm.Cond.instanceMethod ({ cls := "AliasStreams$Tape", name := "becomeEmpty", desc := "()V" } : Jvm.MethodName)) ∈ zWd := zmem 597 (by decide +kernel) rfl
theorem q598 : (Jvm.Cond.code ({ cls := "AliasStreams$Tape", name := "becomeEmpty", desc := "()V" } : Jvm.MethodName) prog_10_method_4_code (1 : Nat) (Option.none : Option Jvm.ClassFile.FieldType)) ∈ zWd := zmem 598 (by decide +kernel) rfl
theorem q599 : (Jvm.Cond.methodLinkNest "AliasStreams" (121 : Nat) ({ cls := "AliasStreams$History", name := "forget", desc := "()V" } : Jvm.MethodName) "AliasStreams") ∈ zNs := zmemN 599 (by decide +kernel) rfl
theorem q601 : (Jvm.Cond.instanceMethod ({ cls := "AliasStreams$History", name := "forget", desc := "()V" } : Jvm.MethodName)) ∈ zWd := zmem 601 (by decide +kernel) rfl
theorem q602 : (Jvm.Cond.code ({ cls := "AliasStreams$History", name := "forget", desc := "()V" } : Jvm.MethodName) prog_2_method_2_code (1 : Nat) (Option.none : Option Jvm.ClassFile.FieldType)) ∈ zWd := zmem 602 (by decide +kernel) rfl
theorem q603 : (Jvm.Cond.methodLinkNest "AliasStreams" (124 : Nat) ({ cls := "AliasStreams$Saves", name := "empty", desc := "()V" } : Jvm.MethodName) "AliasStreams") ∈ zNs := zmemN 603 (by decide +kernel) rfl
theorem q605 : (Jvm.Cond.instanceMethod ({ cls := "AliasStreams$Saves", name := "empty", desc := "()V" } : Jvm.MethodName)) ∈ zWd := zmem 605 (by decide +kernel) rfl
theorem q606 : (Jvm.Cond.code ({ cls := "AliasStreams$Saves", name := "empty", desc := "()V" } : Jvm.MethodName) prog_5_method_2_code (1 : Nat) (Option.none : Option Jvm.ClassFile.FieldType)) ∈ zWd := zmem 606 (by decide +kernel) rfl
theorem q607 : (Jvm.Cond.methodLink "AliasStreamsLaw" (125 : Nat) ({ cls := "AliasStreamsLaw", name := "about", desc := "(LAliasStreams;I[J)I" } : Jvm.MethodName)) ∈ zWd := zmem 607 (by decide +kernel) rfl
theorem q608 : (Jvm.Cond.static ({ cls := "AliasStreamsLaw", name := "about", desc := "(LAliasStreams;I[J)I" } : Jvm.MethodName)) ∈ zWd := zmem 608 (by decide +kernel) rfl
theorem q610 : (Jvm.Cond.methodLink "AliasStreamsLaw" (21 : Nat) ({ cls := "AliasStreams", name := "about", desc := "(I)I" } : Jvm.MethodName)) ∈ zWd := zmem 610 (by decide +kernel) rfl
theorem q611 : (Jvm.Cond.instanceMethod ({ cls := "AliasStreams", name := "about", desc := "(I)I" } : Jvm.MethodName)) ∈ zWd := zmem 611 (by decide +kernel) rfl
theorem q612 : (Jvm.Cond.selects "AliasStreams" ({ cls := "AliasStreams", name := "about", desc := "(I)I" } : Jvm.MethodName) ({ cls := "AliasStreams", name := "about", desc := "(I)I" } : Jvm.MethodName)) ∈ zWd := zmem 612 (by decide +kernel) rfl
theorem q613 : (Jvm.Cond.code ({ cls := "AliasStreams", name := "about", desc := "(I)I" } : Jvm.MethodName) prog_1_method_6_code (2 : Nat) (Option.some Jvm.ClassFile.FieldType.int)) ∈ zWd := zmem 613 (by decide +kernel) rfl
theorem q615 : (Jvm.Cond.methodLink "AliasStreamsLaw" (128 : Nat) ({ cls := "AliasStreamsLaw", name := "symbol", desc := "(LAliasStreams;III[J)I" } : Jvm.MethodName)) ∈ zWd := zmem 615 (by decide +kernel) rfl
theorem q616 : (Jvm.Cond.static ({ cls := "AliasStreamsLaw", name := "symbol", desc := "(LAliasStreams;III[J)I" } : Jvm.MethodName)) ∈ zWd := zmem 616 (by decide +kernel) rfl
theorem q618 : (Jvm.Cond.classLink "AliasStreamsLaw" (28 : Nat) "java/lang/IndexOutOfBoundsException") ∈ zWd := zmem 618 (by decide +kernel) rfl
theorem q619 : (Jvm.Cond.methodLink "AliasStreamsLaw" (24 : Nat) ({ cls := "AliasStreams", name := "symbol", desc := "(III)I" } : Jvm.MethodName)) ∈ zWd := zmem 619 (by decide +kernel) rfl
theorem q620 : (Jvm.Cond.instanceMethod ({ cls := "AliasStreams", name := "symbol", desc := "(III)I" } : Jvm.MethodName)) ∈ zWd := zmem 620 (by decide +kernel) rfl
theorem q621 : (Jvm.Cond.selects "AliasStreams" ({ cls := "AliasStreams", name := "symbol", desc := "(III)I" } : Jvm.MethodName) ({ cls := "AliasStreams", name := "symbol", desc := "(III)I" } : Jvm.MethodName)) ∈ zWd := zmem 621 (by decide +kernel) rfl
theorem q622 : (Jvm.Cond.code ({ cls := "AliasStreams", name := "symbol", desc := "(III)I" } : Jvm.MethodName) prog_1_method_7_code (4 : Nat) (Option.some Jvm.ClassFile.FieldType.int)) ∈ zWd := zmem 622 (by decide +kernel) rfl
theorem q623 : (Jvm.Cond.methodLinkNest "AliasStreams" (156 : Nat) ({ cls := "AliasStreams$Models", name := "hasModel", desc := "(I)Z" } : Jvm.MethodName) "AliasStreams") ∈ zNs := zmemN 623 (by decide +kernel) rfl
theorem q625 : (Jvm.Cond.instanceMethod ({ cls := "AliasStreams$Models", name := "hasModel", desc := "(I)Z" } : Jvm.MethodName)) ∈ zWd := zmem 625 (by decide +kernel) rfl
theorem q626 : (Jvm.Cond.code ({ cls := "AliasStreams$Models", name := "hasModel", desc := "(I)Z" } : Jvm.MethodName) prog_4_method_3_code (2 : Nat) (Option.some Jvm.ClassFile.FieldType.boolean)) ∈ zWd := zmem 626 (by decide +kernel) rfl
theorem q627 : (Jvm.Cond.methodLinkNest "AliasStreams" (160 : Nat) ({ cls := "AliasStreams$Models", name := "hasSymbol", desc := "(I)Z" } : Jvm.MethodName) "AliasStreams") ∈ zNs := zmemN 627 (by decide +kernel) rfl
theorem q629 : (Jvm.Cond.instanceMethod ({ cls := "AliasStreams$Models", name := "hasSymbol", desc := "(I)Z" } : Jvm.MethodName)) ∈ zWd := zmem 629 (by decide +kernel) rfl
theorem q630 : (Jvm.Cond.code ({ cls := "AliasStreams$Models", name := "hasSymbol", desc := "(I)Z" } : Jvm.MethodName) prog_4_method_2_code (2 : Nat) (Option.some Jvm.ClassFile.FieldType.boolean)) ∈ zWd := zmem 630 (by decide +kernel) rfl
theorem q631 : (Jvm.Cond.classLink "AliasStreams" (163 : Nat) "java/lang/IndexOutOfBoundsException") ∈ zWd := zmem 631 (by decide +kernel) rfl
theorem q632 : (Jvm.Cond.instantiable "java/lang/IndexOutOfBoundsException" (6 : Nat)) ∈ zWd := zmem 632 (by decide +kernel) rfl
theorem q634 : (Jvm.Cond.selects "java/lang/IndexOutOfBoundsException" ({ cls := "java/lang/Throwable", name := "fillInStackTrace", desc := "(I)Ljava/lang/Throwable;" } : Jvm.MethodName) ({ cls := "java/lang/Throwable", name := "fillInStackTrace", desc := "(I)Ljava/lang/Throwable;" } : Jvm.MethodName)) ∈ zWd := zmem 634 (by decide +kernel) rfl
theorem q641 : (Jvm.Cond.methodLink "AliasStreams" (167 : Nat) ({ cls := "java/lang/IndexOutOfBoundsException", name := "<init>", desc := "(Ljava/lang/String;)V" } : Jvm.MethodName)) ∈ zWd := zmem 641 (by decide +kernel) rfl
theorem q642 : (Jvm.Cond.instanceMethod ({ cls := "java/lang/IndexOutOfBoundsException", name := "<init>", desc := "(Ljava/lang/String;)V" } : Jvm.MethodName)) ∈ zWd := zmem 642 (by decide +kernel) rfl
theorem q643 : (Jvm.Cond.code ({ cls := "java/lang/IndexOutOfBoundsException", name := "<init>", desc := "(Ljava/lang/String;)V" } : Jvm.MethodName) prog_17_method_2_code (2 : Nat) (Option.none : Option Jvm.ClassFile.FieldType)) ∈ zWd := zmem 643 (by decide +kernel) rfl
theorem q644 : (Jvm.Cond.methodLink "java/lang/IndexOutOfBoundsException" (7 : Nat) ({ cls := "java/lang/RuntimeException", name := "<init>", desc := "(Ljava/lang/String;)V" } : Jvm.MethodName)) ∈ zWd := zmem 644 (by decide +kernel) rfl
theorem q648 : (Jvm.Cond.methodLinkNest "AliasStreams" (170 : Nat) ({ cls := "AliasStreams$State", name := "countOf", desc := "(II)I" } : Jvm.MethodName) "AliasStreams") ∈ zNs := zmemN 648 (by decide +kernel) rfl
theorem q650 : (Jvm.Cond.instanceMethod ({ cls := "AliasStreams$State", name := "countOf", desc := "(II)I" } : Jvm.MethodName)) ∈ zWd := zmem 650 (by decide +kernel) rfl
theorem q651 : (Jvm.Cond.code ({ cls := "AliasStreams$State", name := "countOf", desc := "(II)I" } : Jvm.MethodName) prog_7_method_4_code (3 : Nat) (Option.some Jvm.ClassFile.FieldType.int)) ∈ zWd := zmem 651 (by decide +kernel) rfl
theorem q652 : (Jvm.Cond.methodLinkNest "AliasStreams$State" (47 : Nat) ({ cls := "AliasStreams", name := "countIn", desc := "([III)I" } : Jvm.MethodName) "AliasStreams") ∈ zNs := zmemN 652 (by decide +kernel) rfl
theorem q653 : (Jvm.Cond.methodLinkNest "AliasStreams" (174 : Nat) ({ cls := "AliasStreams$Models", name := "of", desc := "(I)LAliasStreams$Model;" } : Jvm.MethodName) "AliasStreams") ∈ zNs := zmemN 653 (by decide +kernel) rfl
theorem q654 : (Jvm.Cond.methodLinkNest "AliasStreams" (178 : Nat) ({ cls := "AliasStreams$Model", name := "frequencyOf", desc := "(I)I" } : Jvm.MethodName) "AliasStreams") ∈ zNs := zmemN 654 (by decide +kernel) rfl
theorem q655 : (Jvm.Cond.methodLink "AliasStreamsLaw" (132 : Nat) ({ cls := "AliasStreamsLaw", name := "bucket", desc := "(LAliasStreams;III[J)I" } : Jvm.MethodName)) ∈ zWd := zmem 655 (by decide +kernel) rfl
theorem q656 : (Jvm.Cond.static ({ cls := "AliasStreamsLaw", name := "bucket", desc := "(LAliasStreams;III[J)I" } : Jvm.MethodName)) ∈ zWd := zmem 656 (by decide +kernel) rfl
theorem q658 : (Jvm.Cond.methodLink "AliasStreamsLaw" (30 : Nat) ({ cls := "AliasStreams", name := "bucket", desc := "(III)I" } : Jvm.MethodName)) ∈ zWd := zmem 658 (by decide +kernel) rfl
theorem q659 : (Jvm.Cond.instanceMethod ({ cls := "AliasStreams", name := "bucket", desc := "(III)I" } : Jvm.MethodName)) ∈ zWd := zmem 659 (by decide +kernel) rfl
theorem q660 : (Jvm.Cond.selects "AliasStreams" ({ cls := "AliasStreams", name := "bucket", desc := "(III)I" } : Jvm.MethodName) ({ cls := "AliasStreams", name := "bucket", desc := "(III)I" } : Jvm.MethodName)) ∈ zWd := zmem 660 (by decide +kernel) rfl
theorem q661 : (Jvm.Cond.code ({ cls := "AliasStreams", name := "bucket", desc := "(III)I" } : Jvm.MethodName) prog_1_method_8_code (5 : Nat) (Option.some Jvm.ClassFile.FieldType.int)) ∈ zWd := zmem 661 (by decide +kernel) rfl
theorem q663 : (Jvm.Cond.methodLink "AliasStreamsLaw" (135 : Nat) ({ cls := "AliasStreamsLaw", name := "slot", desc := "(LAliasStreams;III[J)I" } : Jvm.MethodName)) ∈ zWd := zmem 663 (by decide +kernel) rfl
theorem q664 : (Jvm.Cond.static ({ cls := "AliasStreamsLaw", name := "slot", desc := "(LAliasStreams;III[J)I" } : Jvm.MethodName)) ∈ zWd := zmem 664 (by decide +kernel) rfl
theorem q666 : (Jvm.Cond.methodLink "AliasStreamsLaw" (33 : Nat) ({ cls := "AliasStreams", name := "slot", desc := "(III)I" } : Jvm.MethodName)) ∈ zWd := zmem 666 (by decide +kernel) rfl
theorem q667 : (Jvm.Cond.instanceMethod ({ cls := "AliasStreams", name := "slot", desc := "(III)I" } : Jvm.MethodName)) ∈ zWd := zmem 667 (by decide +kernel) rfl
theorem q668 : (Jvm.Cond.selects "AliasStreams" ({ cls := "AliasStreams", name := "slot", desc := "(III)I" } : Jvm.MethodName) ({ cls := "AliasStreams", name := "slot", desc := "(III)I" } : Jvm.MethodName)) ∈ zWd := zmem 668 (by decide +kernel) rfl
theorem q669 : (Jvm.Cond.code ({ cls := "AliasStreams", name := "slot", desc := "(III)I" } : Jvm.MethodName) prog_1_method_9_code (5 : Nat) (Option.some Jvm.ClassFile.FieldType.int)) ∈ zWd := zmem 669 (by decide +kernel) rfl
theorem q671 : (Jvm.Cond.methodLink "AliasStreamsLaw" (138 : Nat) ({ cls := "AliasStreamsLaw", name := "item", desc := "(LAliasStreams;I[J)I" } : Jvm.MethodName)) ∈ zWd := zmem 671 (by decide +kernel) rfl
theorem q672 : (Jvm.Cond.static ({ cls := "AliasStreamsLaw", name := "item", desc := "(LAliasStreams;I[J)I" } : Jvm.MethodName)) ∈ zWd := zmem 672 (by decide +kernel) rfl
theorem q674 : (Jvm.Cond.methodLink "AliasStreamsLaw" (36 : Nat) ({ cls := "AliasStreams", name := "item", desc := "(I)I" } : Jvm.MethodName)) ∈ zWd := zmem 674 (by decide +kernel) rfl
theorem q675 : (Jvm.Cond.instanceMethod ({ cls := "AliasStreams", name := "item", desc := "(I)I" } : Jvm.MethodName)) ∈ zWd := zmem 675 (by decide +kernel) rfl
theorem q676 : (Jvm.Cond.selects "AliasStreams" ({ cls := "AliasStreams", name := "item", desc := "(I)I" } : Jvm.MethodName) ({ cls := "AliasStreams", name := "item", desc := "(I)I" } : Jvm.MethodName)) ∈ zWd := zmem 676 (by decide +kernel) rfl
theorem q677 : (Jvm.Cond.code ({ cls := "AliasStreams", name := "item", desc := "(I)I" } : Jvm.MethodName) prog_1_method_10_code (2 : Nat) (Option.some Jvm.ClassFile.FieldType.int)) ∈ zWd := zmem 677 (by decide +kernel) rfl
theorem q678 : (Jvm.Cond.methodLinkNest "AliasStreams" (200 : Nat) ({ cls := "AliasStreams$State", name := "hasItem", desc := "(I)Z" } : Jvm.MethodName) "AliasStreams") ∈ zNs := zmemN 678 (by decide +kernel) rfl
theorem q680 : (Jvm.Cond.instanceMethod ({ cls := "AliasStreams$State", name := "hasItem", desc := "(I)Z" } : Jvm.MethodName)) ∈ zWd := zmem 680 (by decide +kernel) rfl
theorem q681 : (Jvm.Cond.code ({ cls := "AliasStreams$State", name := "hasItem", desc := "(I)Z" } : Jvm.MethodName) prog_7_method_7_code (2 : Nat) (Option.some Jvm.ClassFile.FieldType.boolean)) ∈ zWd := zmem 681 (by decide +kernel) rfl
theorem q683 : (Jvm.Cond.methodLink "AliasStreamsLaw" (141 : Nat) ({ cls := "AliasStreamsLaw", name := "tape", desc := "(LAliasStreams;II[J)I" } : Jvm.MethodName)) ∈ zWd := zmem 683 (by decide +kernel) rfl
theorem q684 : (Jvm.Cond.static ({ cls := "AliasStreamsLaw", name := "tape", desc := "(LAliasStreams;II[J)I" } : Jvm.MethodName)) ∈ zWd := zmem 684 (by decide +kernel) rfl
theorem q686 : (Jvm.Cond.methodLink "AliasStreamsLaw" (39 : Nat) ({ cls := "AliasStreams", name := "tape", desc := "(II)I" } : Jvm.MethodName)) ∈ zWd := zmem 686 (by decide +kernel) rfl
theorem q687 : (Jvm.Cond.instanceMethod ({ cls := "AliasStreams", name := "tape", desc := "(II)I" } : Jvm.MethodName)) ∈ zWd := zmem 687 (by decide +kernel) rfl
theorem q688 : (Jvm.Cond.selects "AliasStreams" ({ cls := "AliasStreams", name := "tape", desc := "(II)I" } : Jvm.MethodName) ({ cls := "AliasStreams", name := "tape", desc := "(II)I" } : Jvm.MethodName)) ∈ zWd := zmem 688 (by decide +kernel) rfl
theorem q689 : (Jvm.Cond.code ({ cls := "AliasStreams", name := "tape", desc := "(II)I" } : Jvm.MethodName) prog_1_method_11_code (4 : Nat) (Option.some Jvm.ClassFile.FieldType.int)) ∈ zWd := zmem 689 (by decide +kernel) rfl
theorem q691 : (Jvm.Cond.methodLinkNest "AliasStreams" (210 : Nat) ({ cls := "AliasStreams$Tape", name := "hasDigit", desc := "(I)Z" } : Jvm.MethodName) "AliasStreams") ∈ zNs := zmemN 691 (by decide +kernel) rfl
theorem q692 : (Jvm.Cond.methodLinkNest "AliasStreams" (216 : Nat) ({ cls := "AliasStreams$Tape", name := "hasPlanned", desc := "(I)Z" } : Jvm.MethodName) "AliasStreams") ∈ zNs := zmemN 692 (by decide +kernel) rfl
theorem q694 : (Jvm.Cond.instanceMethod ({ cls := "AliasStreams$Tape", name := "hasPlanned", desc := "(I)Z" } : Jvm.MethodName)) ∈ zWd := zmem 694 (by decide +kernel) rfl
theorem q695 : (Jvm.Cond.code ({ cls := "AliasStreams$Tape", name := "hasPlanned", desc := "(I)Z" } : Jvm.MethodName) prog_10_method_2_code (2 : Nat) (Option.some Jvm.ClassFile.FieldType.boolean)) ∈ zWd := zmem 695 (by decide +kernel) rfl
theorem q696 : (Jvm.Cond.methodLink "AliasStreams" (222 : Nat) ({ cls := "AliasStreams", name := "isHead", desc := "(I)Z" } : Jvm.MethodName)) ∈ zWd := zmem 696 (by decide +kernel) rfl
theorem q697 : (Jvm.Cond.static ({ cls := "AliasStreams", name := "isHead", desc := "(I)Z" } : Jvm.MethodName)) ∈ zWd := zmem 697 (by decide +kernel) rfl
theorem q698 : (Jvm.Cond.code ({ cls := "AliasStreams", name := "isHead", desc := "(I)Z" } : Jvm.MethodName) prog_1_method_33_code (1 : Nat) (Option.some Jvm.ClassFile.FieldType.boolean)) ∈ zWd := zmem 698 (by decide +kernel) rfl
theorem q700 : (Jvm.Cond.methodLink "AliasStreamsLaw" (145 : Nat) ({ cls := "AliasStreamsLaw", name := "setCount", desc := "(LAliasStreams;III[J)I" } : Jvm.MethodName)) ∈ zWd := zmem 700 (by decide +kernel) rfl
theorem q701 : (Jvm.Cond.static ({ cls := "AliasStreamsLaw", name := "setCount", desc := "(LAliasStreams;III[J)I" } : Jvm.MethodName)) ∈ zWd := zmem 701 (by decide +kernel) rfl
theorem q703 : (Jvm.Cond.methodLink "AliasStreamsLaw" (43 : Nat) ({ cls := "AliasStreams", name := "setCount", desc := "(III)I" } : Jvm.MethodName)) ∈ zWd := zmem 703 (by decide +kernel) rfl
theorem q704 : (Jvm.Cond.instanceMethod ({ cls := "AliasStreams", name := "setCount", desc := "(III)I" } : Jvm.MethodName)) ∈ zWd := zmem 704 (by decide +kernel) rfl
theorem q705 : (Jvm.Cond.selects "AliasStreams" ({ cls := "AliasStreams", name := "setCount", desc := "(III)I" } : Jvm.MethodName) ({ cls := "AliasStreams", name := "setCount", desc := "(III)I" } : Jvm.MethodName)) ∈ zWd := zmem 705 (by decide +kernel) rfl
theorem q706 : (Jvm.Cond.code ({ cls := "AliasStreams", name := "setCount", desc := "(III)I" } : Jvm.MethodName) prog_1_method_12_code (5 : Nat) (Option.some Jvm.ClassFile.FieldType.int)) ∈ zWd := zmem 706 (by decide +kernel) rfl
theorem q708 : (Jvm.Cond.methodLinkNest "AliasStreams" (232 : Nat) ({ cls := "AliasStreams$State", name := "sumOfCounts", desc := "(I)I" } : Jvm.MethodName) "AliasStreams") ∈ zNs := zmemN 708 (by decide +kernel) rfl
theorem q710 : (Jvm.Cond.instanceMethod ({ cls := "AliasStreams$State", name := "sumOfCounts", desc := "(I)I" } : Jvm.MethodName)) ∈ zWd := zmem 710 (by decide +kernel) rfl
theorem q711 : (Jvm.Cond.code ({ cls := "AliasStreams$State", name := "sumOfCounts", desc := "(I)I" } : Jvm.MethodName) prog_7_method_5_code (4 : Nat) (Option.some Jvm.ClassFile.FieldType.int)) ∈ zWd := zmem 711 (by decide +kernel) rfl
theorem q713 : (Jvm.Cond.methodLinkNest "AliasStreams" (237 : Nat) ({ cls := "AliasStreams$History", name := "remember", desc := "(LAliasStreams$State;)V" } : Jvm.MethodName) "AliasStreams") ∈ zNs := zmemN 713 (by decide +kernel) rfl
theorem q715 : (Jvm.Cond.instanceMethod ({ cls := "AliasStreams$History", name := "remember", desc := "(LAliasStreams$State;)V" } : Jvm.MethodName)) ∈ zWd := zmem 715 (by decide +kernel) rfl
theorem q716 : (Jvm.Cond.code ({ cls := "AliasStreams$History", name := "remember", desc := "(LAliasStreams$State;)V" } : Jvm.MethodName) prog_2_method_3_code (2 : Nat) (Option.none : Option Jvm.ClassFile.FieldType)) ∈ zWd := zmem 716 (by decide +kernel) rfl
theorem q717 : (Jvm.Cond.methodLink "AliasStreams$History" (25 : Nat) ({ cls := "AliasStreams$History", name := "placeInRing", desc := "(I)I" } : Jvm.MethodName)) ∈ zWd := zmem 717 (by decide +kernel) rfl
theorem q718 : (Jvm.Cond.static ({ cls := "AliasStreams$History", name := "placeInRing", desc := "(I)I" } : Jvm.MethodName)) ∈ zWd := zmem 718 (by decide +kernel) rfl
theorem q719 : (Jvm.Cond.code ({ cls := "AliasStreams$History", name := "placeInRing", desc := "(I)I" } : Jvm.MethodName) prog_2_method_5_code (1 : Nat) (Option.some Jvm.ClassFile.FieldType.int)) ∈ zWd := zmem 719 (by decide +kernel) rfl
theorem q720 : (Jvm.Cond.methodLink "AliasStreams$History" (39 : Nat) ({ cls := "java/lang/Math", name := "floorMod", desc := "(II)I" } : Jvm.MethodName)) ∈ zWd := zmem 720 (by decide +kernel) rfl
theorem q721 : (Jvm.Cond.static ({ cls := "java/lang/Math", name := "floorMod", desc := "(II)I" } : Jvm.MethodName)) ∈ zWd := zmem 721 (by decide +kernel) rfl
theorem q722 : (Jvm.Cond.code ({ cls := "java/lang/Math", name := "floorMod", desc := "(II)I" } : Jvm.MethodName) prog_18_method_50_code (3 : Nat) (Option.some Jvm.ClassFile.FieldType.int)) ∈ zWd := zmem 722 (by decide +kernel) rfl
theorem q723 : (Jvm.Cond.methodLinkNest "AliasStreams$History" (29 : Nat) ({ cls := "AliasStreams$State", name := "copyFrom", desc := "(LAliasStreams$State;)V" } : Jvm.MethodName) "AliasStreams") ∈ zNs := zmemN 723 (by decide +kernel) rfl
theorem q725 : (Jvm.Cond.instanceMethod ({ cls := "AliasStreams$State", name := "copyFrom", desc := "(LAliasStreams$State;)V" } : Jvm.MethodName)) ∈ zWd := zmem 725 (by decide +kernel) rfl
theorem q726 : (Jvm.Cond.code ({ cls := "AliasStreams$State", name := "copyFrom", desc := "(LAliasStreams$State;)V" } : Jvm.MethodName) prog_7_method_2_code (2 : Nat) (Option.none : Option Jvm.ClassFile.FieldType)) ∈ zWd := zmem 726 (by decide +kernel) rfl
theorem q727 : (Jvm.Cond.methodLinkNest "AliasStreams$State" (35 : Nat) ({ cls := "AliasStreams$Tape", name := "copyFrom", desc := "(LAliasStreams$Tape;)V" } : Jvm.MethodName) "AliasStreams") ∈ zNs := zmemN 727 (by decide +kernel) rfl
theorem q729 : (Jvm.Cond.instanceMethod ({ cls := "AliasStreams$Tape", name := "copyFrom", desc := "(LAliasStreams$Tape;)V" } : Jvm.MethodName)) ∈ zWd := zmem 729 (by decide +kernel) rfl
theorem q730 : (Jvm.Cond.code ({ cls := "AliasStreams$Tape", name := "copyFrom", desc := "(LAliasStreams$Tape;)V" } : Jvm.MethodName) prog_10_method_5_code (2 : Nat) (Option.none : Option Jvm.ClassFile.FieldType)) ∈ zWd := zmem 730 (by decide +kernel) rfl
theorem q731 : (Jvm.Cond.methodLink "AliasStreams$Tape" (28 : Nat) ({ cls := "java/lang/System", name := "arraycopy", desc := "(Ljava/lang/Object;ILjava/lang/Object;II)V" } : Jvm.MethodName)) ∈ zWd := zmem 731 (by decide +kernel) rfl
theorem q732 : (Jvm.Cond.methodLink "AliasStreams$History" (33 : Nat) ({ cls := "java/lang/Math", name := "min", desc := "(II)I" } : Jvm.MethodName)) ∈ zWd := zmem 732 (by decide +kernel) rfl
theorem q733 : (Jvm.Cond.static ({ cls := "java/lang/Math", name := "min", desc := "(II)I" } : Jvm.MethodName)) ∈ zWd := zmem 733 (by decide +kernel) rfl
theorem q734 : (Jvm.Cond.code ({ cls := "java/lang/Math", name := "min", desc := "(II)I" } : Jvm.MethodName) prog_18_method_69_code (2 : Nat) (Option.some Jvm.ClassFile.FieldType.int)) ∈ zWd := zmem 734 (by decide +kernel) rfl
theorem q735 : (Jvm.Cond.methodLinkNest "AliasStreams" (240 : Nat) ({ cls := "AliasStreams$State", name := "changeCount", desc := "(III)V" } : Jvm.MethodName) "AliasStreams") ∈ zNs := zmemN 735 (by decide +kernel) rfl
theorem q737 : (Jvm.Cond.instanceMethod ({ cls := "AliasStreams$State", name := "changeCount", desc := "(III)V" } : Jvm.MethodName)) ∈ zWd := zmem 737 (by decide +kernel) rfl
theorem q738 : (Jvm.Cond.code ({ cls := "AliasStreams$State", name := "changeCount", desc := "(III)V" } : Jvm.MethodName) prog_7_method_6_code (4 : Nat) (Option.none : Option Jvm.ClassFile.FieldType)) ∈ zWd := zmem 738 (by decide +kernel) rfl
theorem q739 : (Jvm.Cond.methodLinkNest "AliasStreams$State" (51 : Nat) ({ cls := "AliasStreams", name := "isCountPlace", desc := "(II)Z" } : Jvm.MethodName) "AliasStreams") ∈ zNs := zmemN 739 (by decide +kernel) rfl
theorem q740 : (Jvm.Cond.methodLink "AliasStreamsLaw" (148 : Nat) ({ cls := "AliasStreamsLaw", name := "insert", desc := "(LAliasStreams;II[J)I" } : Jvm.MethodName)) ∈ zWd := zmem 740 (by decide +kernel) rfl
theorem q741 : (Jvm.Cond.static ({ cls := "AliasStreamsLaw", name := "insert", desc := "(LAliasStreams;II[J)I" } : Jvm.MethodName)) ∈ zWd := zmem 741 (by decide +kernel) rfl
theorem q743 : (Jvm.Cond.methodLink "AliasStreamsLaw" (46 : Nat) ({ cls := "AliasStreams", name := "insert", desc := "(II)I" } : Jvm.MethodName)) ∈ zWd := zmem 743 (by decide +kernel) rfl
theorem q744 : (Jvm.Cond.instanceMethod ({ cls := "AliasStreams", name := "insert", desc := "(II)I" } : Jvm.MethodName)) ∈ zWd := zmem 744 (by decide +kernel) rfl
theorem q745 : (Jvm.Cond.selects "AliasStreams" ({ cls := "AliasStreams", name := "insert", desc := "(II)I" } : Jvm.MethodName) ({ cls := "AliasStreams", name := "insert", desc := "(II)I" } : Jvm.MethodName)) ∈ zWd := zmem 745 (by decide +kernel) rfl
theorem q746 : (Jvm.Cond.code ({ cls := "AliasStreams", name := "insert", desc := "(II)I" } : Jvm.MethodName) prog_1_method_13_code (3 : Nat) (Option.some Jvm.ClassFile.FieldType.int)) ∈ zWd := zmem 746 (by decide +kernel) rfl
theorem q748 : (Jvm.Cond.methodLinkNest "AliasStreams" (246 : Nat) ({ cls := "AliasStreams$Models", name := "allowItem", desc := "(I)Z" } : Jvm.MethodName) "AliasStreams") ∈ zNs := zmemN 748 (by decide +kernel) rfl
theorem q750 : (Jvm.Cond.instanceMethod ({ cls := "AliasStreams$Models", name := "allowItem", desc := "(I)Z" } : Jvm.MethodName)) ∈ zWd := zmem 750 (by decide +kernel) rfl
theorem q751 : (Jvm.Cond.code ({ cls := "AliasStreams$Models", name := "allowItem", desc := "(I)Z" } : Jvm.MethodName) prog_4_method_4_code (2 : Nat) (Option.some Jvm.ClassFile.FieldType.boolean)) ∈ zWd := zmem 751 (by decide +kernel) rfl
theorem q752 : (Jvm.Cond.methodLink "AliasStreams$Models" (25 : Nat) ({ cls := "AliasStreams$Models", name := "hasSymbol", desc := "(I)Z" } : Jvm.MethodName)) ∈ zWd := zmem 752 (by decide +kernel) rfl
theorem q753 : (Jvm.Cond.methodLink "AliasStreams$Models" (29 : Nat) ({ cls := "AliasStreams$Models", name := "hasModel", desc := "(I)Z" } : Jvm.MethodName)) ∈ zWd := zmem 753 (by decide +kernel) rfl
theorem q756 : (Jvm.Cond.methodLinkNest "AliasStreams" (253 : Nat) ({ cls := "AliasStreams$State", name := "addItem", desc := "(II)V" } : Jvm.MethodName) "AliasStreams") ∈ zNs := zmemN 756 (by decide +kernel) rfl
theorem q758 : (Jvm.Cond.instanceMethod ({ cls := "AliasStreams$State", name := "addItem", desc := "(II)V" } : Jvm.MethodName)) ∈ zWd := zmem 758 (by decide +kernel) rfl
theorem q759 : (Jvm.Cond.code ({ cls := "AliasStreams$State", name := "addItem", desc := "(II)V" } : Jvm.MethodName) prog_7_method_8_code (4 : Nat) (Option.none : Option Jvm.ClassFile.FieldType)) ∈ zWd := zmem 759 (by decide +kernel) rfl
theorem q760 : (Jvm.Cond.methodLink "AliasStreamsLaw" (151 : Nat) ({ cls := "AliasStreamsLaw", name := "remove", desc := "(LAliasStreams;I[J)I" } : Jvm.MethodName)) ∈ zWd := zmem 760 (by decide +kernel) rfl
theorem q761 : (Jvm.Cond.static ({ cls := "AliasStreamsLaw", name := "remove", desc := "(LAliasStreams;I[J)I" } : Jvm.MethodName)) ∈ zWd := zmem 761 (by decide +kernel) rfl
theorem q763 : (Jvm.Cond.methodLink "AliasStreamsLaw" (49 : Nat) ({ cls := "AliasStreams", name := "remove", desc := "(I)I" } : Jvm.MethodName)) ∈ zWd := zmem 763 (by decide +kernel) rfl
theorem q764 : (Jvm.Cond.instanceMethod ({ cls := "AliasStreams", name := "remove", desc := "(I)I" } : Jvm.MethodName)) ∈ zWd := zmem 764 (by decide +kernel) rfl
theorem q765 : (Jvm.Cond.selects "AliasStreams" ({ cls := "AliasStreams", name := "remove", desc := "(I)I" } : Jvm.MethodName) ({ cls := "AliasStreams", name := "remove", desc := "(I)I" } : Jvm.MethodName)) ∈ zWd := zmem 765 (by decide +kernel) rfl
theorem q766 : (Jvm.Cond.code ({ cls := "AliasStreams", name := "remove", desc := "(I)I" } : Jvm.MethodName) prog_1_method_14_code (3 : Nat) (Option.some Jvm.ClassFile.FieldType.int)) ∈ zWd := zmem 766 (by decide +kernel) rfl
theorem q767 : (Jvm.Cond.methodLinkNest "AliasStreams" (257 : Nat) ({ cls := "AliasStreams$State", name := "dropItem", desc := "(I)V" } : Jvm.MethodName) "AliasStreams") ∈ zNs := zmemN 767 (by decide +kernel) rfl
theorem q769 : (Jvm.Cond.instanceMethod ({ cls := "AliasStreams$State", name := "dropItem", desc := "(I)V" } : Jvm.MethodName)) ∈ zWd := zmem 769 (by decide +kernel) rfl
theorem q770 : (Jvm.Cond.code ({ cls := "AliasStreams$State", name := "dropItem", desc := "(I)V" } : Jvm.MethodName) prog_7_method_9_code (3 : Nat) (Option.none : Option Jvm.ClassFile.FieldType)) ∈ zWd := zmem 770 (by decide +kernel) rfl
theorem q771 : (Jvm.Cond.methodLink "AliasStreams$State" (55 : Nat) ({ cls := "AliasStreams$State", name := "hasItem", desc := "(I)Z" } : Jvm.MethodName)) ∈ zWd := zmem 771 (by decide +kernel) rfl
theorem q772 : (Jvm.Cond.methodLink "AliasStreamsLaw" (154 : Nat) ({ cls := "AliasStreamsLaw", name := "encode", desc := "(LAliasStreams;[J)I" } : Jvm.MethodName)) ∈ zWd := zmem 772 (by decide +kernel) rfl
theorem q773 : (Jvm.Cond.static ({ cls := "AliasStreamsLaw", name := "encode", desc := "(LAliasStreams;[J)I" } : Jvm.MethodName)) ∈ zWd := zmem 773 (by decide +kernel) rfl
theorem q775 : (Jvm.Cond.methodLink "AliasStreamsLaw" (52 : Nat) ({ cls := "AliasStreams", name := "encode", desc := "()I" } : Jvm.MethodName)) ∈ zWd := zmem 775 (by decide +kernel) rfl
theorem q776 : (Jvm.Cond.instanceMethod ({ cls := "AliasStreams", name := "encode", desc := "()I" } : Jvm.MethodName)) ∈ zWd := zmem 776 (by decide +kernel) rfl
theorem q777 : (Jvm.Cond.selects "AliasStreams" ({ cls := "AliasStreams", name := "encode", desc := "()I" } : Jvm.MethodName) ({ cls := "AliasStreams", name := "encode", desc := "()I" } : Jvm.MethodName)) ∈ zWd := zmem 777 (by decide +kernel) rfl
theorem q778 : (Jvm.Cond.code ({ cls := "AliasStreams", name := "encode", desc := "()I" } : Jvm.MethodName) prog_1_method_15_code (1 : Nat) (Option.some Jvm.ClassFile.FieldType.int)) ∈ zWd := zmem 778 (by decide +kernel) rfl
theorem q780 : (Jvm.Cond.methodLinkNest "AliasStreams" (266 : Nat) ({ cls := "AliasStreams$Tape", name := "fill", desc := "(LAliasStreams$Symbols;LAliasStreams$Models;)V" } : Jvm.MethodName) "AliasStreams") ∈ zNs := zmemN 780 (by decide +kernel) rfl
theorem q782 : (Jvm.Cond.instanceMethod ({ cls := "AliasStreams$Tape", name := "fill", desc := "(LAliasStreams$Symbols;LAliasStreams$Models;)V" } : Jvm.MethodName)) ∈ zWd := zmem 782 (by decide +kernel) rfl
theorem q783 : (Jvm.Cond.code ({ cls := "AliasStreams$Tape", name := "fill", desc := "(LAliasStreams$Symbols;LAliasStreams$Models;)V" } : Jvm.MethodName) prog_10_method_6_code (4 : Nat) (Option.none : Option Jvm.ClassFile.FieldType)) ∈ zWd := zmem 783 (by decide +kernel) rfl
theorem q784 : (Jvm.Cond.methodLink "AliasStreams$Tape" (34 : Nat) ({ cls := "AliasStreams$Tape", name := "becomeEmpty", desc := "()V" } : Jvm.MethodName)) ∈ zWd := zmem 784 (by decide +kernel) rfl
theorem q785 : (Jvm.Cond.methodLink "AliasStreams$Tape" (42 : Nat) ({ cls := "java/lang/Math", name := "min", desc := "(II)I" } : Jvm.MethodName)) ∈ zWd := zmem 785 (by decide +kernel) rfl
theorem q786 : (Jvm.Cond.methodLinkNest "AliasStreams$Tape" (51 : Nat) ({ cls := "AliasStreams$Models", name := "of", desc := "(I)LAliasStreams$Model;" } : Jvm.MethodName) "AliasStreams") ∈ zNs := zmemN 786 (by decide +kernel) rfl
theorem q787 : (Jvm.Cond.methodLink "AliasStreams$Tape" (60 : Nat) ({ cls := "AliasStreams$Tape", name := "putSymbol", desc := "(LAliasStreams$Model;II)V" } : Jvm.MethodName)) ∈ zWd := zmem 787 (by decide +kernel) rfl
theorem q789 : (Jvm.Cond.instanceMethod ({ cls := "AliasStreams$Tape", name := "putSymbol", desc := "(LAliasStreams$Model;II)V" } : Jvm.MethodName)) ∈ zWd := zmem 789 (by decide +kernel) rfl
theorem q790 : (Jvm.Cond.code ({ cls := "AliasStreams$Tape", name := "putSymbol", desc := "(LAliasStreams$Model;II)V" } : Jvm.MethodName) prog_10_method_7_code (7 : Nat) (Option.none : Option Jvm.ClassFile.FieldType)) ∈ zWd := zmem 790 (by decide +kernel) rfl
theorem q791 : (Jvm.Cond.methodLinkNest "AliasStreams$Tape" (64 : Nat) ({ cls := "AliasStreams$Model", name := "frequencyOf", desc := "(I)I" } : Jvm.MethodName) "AliasStreams") ∈ zNs := zmemN 791 (by decide +kernel) rfl
theorem q792 : (Jvm.Cond.methodLinkNest "AliasStreams$Tape" (70 : Nat) ({ cls := "AliasStreams", name := "isHead", desc := "(I)Z" } : Jvm.MethodName) "AliasStreams") ∈ zNs := zmemN 792 (by decide +kernel) rfl
theorem q793 : (Jvm.Cond.methodLink "AliasStreams$Tape" (74 : Nat) ({ cls := "AliasStreams$Tape", name := "writeDigit", desc := "(I)V" } : Jvm.MethodName)) ∈ zWd := zmem 793 (by decide +kernel) rfl
theorem q795 : (Jvm.Cond.instanceMethod ({ cls := "AliasStreams$Tape", name := "writeDigit", desc := "(I)V" } : Jvm.MethodName)) ∈ zWd := zmem 795 (by decide +kernel) rfl
theorem q796 : (Jvm.Cond.code ({ cls := "AliasStreams$Tape", name := "writeDigit", desc := "(I)V" } : Jvm.MethodName) prog_10_method_8_code (2 : Nat) (Option.none : Option Jvm.ClassFile.FieldType)) ∈ zWd := zmem 796 (by decide +kernel) rfl
theorem q797 : (Jvm.Cond.methodLinkNest "AliasStreams$Tape" (78 : Nat) ({ cls := "AliasStreams$Model", name := "slotOf", desc := "(II)I" } : Jvm.MethodName) "AliasStreams") ∈ zNs := zmemN 797 (by decide +kernel) rfl
theorem q799 : (Jvm.Cond.instanceMethod ({ cls := "AliasStreams$Model", name := "slotOf", desc := "(II)I" } : Jvm.MethodName)) ∈ zWd := zmem 799 (by decide +kernel) rfl
theorem q800 : (Jvm.Cond.code ({ cls := "AliasStreams$Model", name := "slotOf", desc := "(II)I" } : Jvm.MethodName) prog_3_method_3_code (4 : Nat) (Option.some Jvm.ClassFile.FieldType.int)) ∈ zWd := zmem 800 (by decide +kernel) rfl
theorem q801 : (Jvm.Cond.methodLink "AliasStreamsLaw" (157 : Nat) ({ cls := "AliasStreamsLaw", name := "decode", desc := "(LAliasStreams;[J)I" } : Jvm.MethodName)) ∈ zWd := zmem 801 (by decide +kernel) rfl
theorem q802 : (Jvm.Cond.static ({ cls := "AliasStreamsLaw", name := "decode", desc := "(LAliasStreams;[J)I" } : Jvm.MethodName)) ∈ zWd := zmem 802 (by decide +kernel) rfl
theorem q804 : (Jvm.Cond.methodLink "AliasStreamsLaw" (55 : Nat) ({ cls := "AliasStreams", name := "decode", desc := "()I" } : Jvm.MethodName)) ∈ zWd := zmem 804 (by decide +kernel) rfl
theorem q805 : (Jvm.Cond.instanceMethod ({ cls := "AliasStreams", name := "decode", desc := "()I" } : Jvm.MethodName)) ∈ zWd := zmem 805 (by decide +kernel) rfl
theorem q806 : (Jvm.Cond.selects "AliasStreams" ({ cls := "AliasStreams", name := "decode", desc := "()I" } : Jvm.MethodName) ({ cls := "AliasStreams", name := "decode", desc := "()I" } : Jvm.MethodName)) ∈ zWd := zmem 806 (by decide +kernel) rfl
theorem q807 : (Jvm.Cond.code ({ cls := "AliasStreams", name := "decode", desc := "()I" } : Jvm.MethodName) prog_1_method_16_code (1 : Nat) (Option.some Jvm.ClassFile.FieldType.int)) ∈ zWd := zmem 807 (by decide +kernel) rfl
theorem q808 : (Jvm.Cond.methodLinkNest "AliasStreams" (273 : Nat) ({ cls := "AliasStreams$Tape", name := "itemsNeeded", desc := "()I" } : Jvm.MethodName) "AliasStreams") ∈ zNs := zmemN 808 (by decide +kernel) rfl
theorem q810 : (Jvm.Cond.instanceMethod ({ cls := "AliasStreams$Tape", name := "itemsNeeded", desc := "()I" } : Jvm.MethodName)) ∈ zWd := zmem 810 (by decide +kernel) rfl
theorem q811 : (Jvm.Cond.code ({ cls := "AliasStreams$Tape", name := "itemsNeeded", desc := "()I" } : Jvm.MethodName) prog_10_method_9_code (4 : Nat) (Option.some Jvm.ClassFile.FieldType.int)) ∈ zWd := zmem 811 (by decide +kernel) rfl
theorem q813 : (Jvm.Cond.methodLinkNest "AliasStreams" (278 : Nat) ({ cls := "AliasStreams$State", name := "takeMessage", desc := "(LAliasStreams$Taking;)V" } : Jvm.MethodName) "AliasStreams") ∈ zNs := zmemN 813 (by decide +kernel) rfl
theorem q815 : (Jvm.Cond.instanceMethod ({ cls := "AliasStreams$State", name := "takeMessage", desc := "(LAliasStreams$Taking;)V" } : Jvm.MethodName)) ∈ zWd := zmem 815 (by decide +kernel) rfl
theorem q816 : (Jvm.Cond.code ({ cls := "AliasStreams$State", name := "takeMessage", desc := "(LAliasStreams$Taking;)V" } : Jvm.MethodName) prog_7_method_10_code (4 : Nat) (Option.none : Option Jvm.ClassFile.FieldType)) ∈ zWd := zmem 816 (by decide +kernel) rfl
theorem q817 : (Jvm.Cond.methodLink "AliasStreams$State" (65 : Nat) ({ cls := "AliasStreams$State", name := "addItem", desc := "(II)V" } : Jvm.MethodName)) ∈ zWd := zmem 817 (by decide +kernel) rfl
theorem q818 : (Jvm.Cond.methodLink "AliasStreamsLaw" (160 : Nat) ({ cls := "AliasStreamsLaw", name := "setDigit", desc := "(LAliasStreams;II[J)I" } : Jvm.MethodName)) ∈ zWd := zmem 818 (by decide +kernel) rfl
theorem q819 : (Jvm.Cond.static ({ cls := "AliasStreamsLaw", name := "setDigit", desc := "(LAliasStreams;II[J)I" } : Jvm.MethodName)) ∈ zWd := zmem 819 (by decide +kernel) rfl
theorem q821 : (Jvm.Cond.methodLink "AliasStreamsLaw" (58 : Nat) ({ cls := "AliasStreams", name := "setDigit", desc := "(II)I" } : Jvm.MethodName)) ∈ zWd := zmem 821 (by decide +kernel) rfl
theorem q822 : (Jvm.Cond.instanceMethod ({ cls := "AliasStreams", name := "setDigit", desc := "(II)I" } : Jvm.MethodName)) ∈ zWd := zmem 822 (by decide +kernel) rfl
theorem q823 : (Jvm.Cond.selects "AliasStreams" ({ cls := "AliasStreams", name := "setDigit", desc := "(II)I" } : Jvm.MethodName) ({ cls := "AliasStreams", name := "setDigit", desc := "(II)I" } : Jvm.MethodName)) ∈ zWd := zmem 823 (by decide +kernel) rfl
theorem q824 : (Jvm.Cond.code ({ cls := "AliasStreams", name := "setDigit", desc := "(II)I" } : Jvm.MethodName) prog_1_method_17_code (4 : Nat) (Option.some Jvm.ClassFile.FieldType.int)) ∈ zWd := zmem 824 (by decide +kernel) rfl
theorem q826 : (Jvm.Cond.methodLink "AliasStreams" (284 : Nat) ({ cls := "AliasStreams", name := "isDigit", desc := "(I)Z" } : Jvm.MethodName)) ∈ zWd := zmem 826 (by decide +kernel) rfl
theorem q827 : (Jvm.Cond.static ({ cls := "AliasStreams", name := "isDigit", desc := "(I)Z" } : Jvm.MethodName)) ∈ zWd := zmem 827 (by decide +kernel) rfl
theorem q828 : (Jvm.Cond.code ({ cls := "AliasStreams", name := "isDigit", desc := "(I)Z" } : Jvm.MethodName) prog_1_method_34_code (1 : Nat) (Option.some Jvm.ClassFile.FieldType.boolean)) ∈ zWd := zmem 828 (by decide +kernel) rfl
theorem q830 : (Jvm.Cond.methodLink "AliasStreamsLaw" (163 : Nat) ({ cls := "AliasStreamsLaw", name := "setHead", desc := "(LAliasStreams;II[J)I" } : Jvm.MethodName)) ∈ zWd := zmem 830 (by decide +kernel) rfl
theorem q831 : (Jvm.Cond.static ({ cls := "AliasStreamsLaw", name := "setHead", desc := "(LAliasStreams;II[J)I" } : Jvm.MethodName)) ∈ zWd := zmem 831 (by decide +kernel) rfl
theorem q833 : (Jvm.Cond.methodLink "AliasStreamsLaw" (61 : Nat) ({ cls := "AliasStreams", name := "setHead", desc := "(II)I" } : Jvm.MethodName)) ∈ zWd := zmem 833 (by decide +kernel) rfl
theorem q834 : (Jvm.Cond.instanceMethod ({ cls := "AliasStreams", name := "setHead", desc := "(II)I" } : Jvm.MethodName)) ∈ zWd := zmem 834 (by decide +kernel) rfl
theorem q835 : (Jvm.Cond.selects "AliasStreams" ({ cls := "AliasStreams", name := "setHead", desc := "(II)I" } : Jvm.MethodName) ({ cls := "AliasStreams", name := "setHead", desc := "(II)I" } : Jvm.MethodName)) ∈ zWd := zmem 835 (by decide +kernel) rfl
theorem q836 : (Jvm.Cond.code ({ cls := "AliasStreams", name := "setHead", desc := "(II)I" } : Jvm.MethodName) prog_1_method_18_code (4 : Nat) (Option.some Jvm.ClassFile.FieldType.int)) ∈ zWd := zmem 836 (by decide +kernel) rfl
theorem q839 : (Jvm.Cond.methodLink "AliasStreamsLaw" (166 : Nat) ({ cls := "AliasStreamsLaw", name := "setPlan", desc := "(LAliasStreams;II[J)I" } : Jvm.MethodName)) ∈ zWd := zmem 839 (by decide +kernel) rfl
theorem q840 : (Jvm.Cond.static ({ cls := "AliasStreamsLaw", name := "setPlan", desc := "(LAliasStreams;II[J)I" } : Jvm.MethodName)) ∈ zWd := zmem 840 (by decide +kernel) rfl
theorem q842 : (Jvm.Cond.methodLink "AliasStreamsLaw" (64 : Nat) ({ cls := "AliasStreams", name := "setPlan", desc := "(II)I" } : Jvm.MethodName)) ∈ zWd := zmem 842 (by decide +kernel) rfl
theorem q843 : (Jvm.Cond.instanceMethod ({ cls := "AliasStreams", name := "setPlan", desc := "(II)I" } : Jvm.MethodName)) ∈ zWd := zmem 843 (by decide +kernel) rfl
theorem q844 : (Jvm.Cond.selects "AliasStreams" ({ cls := "AliasStreams", name := "setPlan", desc := "(II)I" } : Jvm.MethodName) ({ cls := "AliasStreams", name := "setPlan", desc := "(II)I" } : Jvm.MethodName)) ∈ zWd := zmem 844 (by decide +kernel) rfl
theorem q845 : (Jvm.Cond.code ({ cls := "AliasStreams", name := "setPlan", desc := "(II)I" } : Jvm.MethodName) prog_1_method_19_code (4 : Nat) (Option.some Jvm.ClassFile.FieldType.int)) ∈ zWd := zmem 845 (by decide +kernel) rfl
theorem q847 : (Jvm.Cond.methodLink "AliasStreamsLaw" (169 : Nat) ({ cls := "AliasStreamsLaw", name := "undo", desc := "(LAliasStreams;[J)I" } : Jvm.MethodName)) ∈ zWd := zmem 847 (by decide +kernel) rfl
theorem q848 : (Jvm.Cond.static ({ cls := "AliasStreamsLaw", name := "undo", desc := "(LAliasStreams;[J)I" } : Jvm.MethodName)) ∈ zWd := zmem 848 (by decide +kernel) rfl
theorem q850 : (Jvm.Cond.methodLink "AliasStreamsLaw" (67 : Nat) ({ cls := "AliasStreams", name := "undo", desc := "()I" } : Jvm.MethodName)) ∈ zWd := zmem 850 (by decide +kernel) rfl
theorem q851 : (Jvm.Cond.instanceMethod ({ cls := "AliasStreams", name := "undo", desc := "()I" } : Jvm.MethodName)) ∈ zWd := zmem 851 (by decide +kernel) rfl
theorem q852 : (Jvm.Cond.selects "AliasStreams" ({ cls := "AliasStreams", name := "undo", desc := "()I" } : Jvm.MethodName) ({ cls := "AliasStreams", name := "undo", desc := "()I" } : Jvm.MethodName)) ∈ zWd := zmem 852 (by decide +kernel) rfl
theorem q853 : (Jvm.Cond.code ({ cls := "AliasStreams", name := "undo", desc := "()I" } : Jvm.MethodName) prog_1_method_20_code (1 : Nat) (Option.some Jvm.ClassFile.FieldType.int)) ∈ zWd := zmem 853 (by decide +kernel) rfl
theorem q855 : (Jvm.Cond.methodLinkNest "AliasStreams" (298 : Nat) ({ cls := "AliasStreams$History", name := "giveBack", desc := "(LAliasStreams$State;)V" } : Jvm.MethodName) "AliasStreams") ∈ zNs := zmemN 855 (by decide +kernel) rfl
theorem q857 : (Jvm.Cond.instanceMethod ({ cls := "AliasStreams$History", name := "giveBack", desc := "(LAliasStreams$State;)V" } : Jvm.MethodName)) ∈ zWd := zmem 857 (by decide +kernel) rfl
theorem q858 : (Jvm.Cond.code ({ cls := "AliasStreams$History", name := "giveBack", desc := "(LAliasStreams$State;)V" } : Jvm.MethodName) prog_2_method_4_code (2 : Nat) (Option.none : Option Jvm.ClassFile.FieldType)) ∈ zWd := zmem 858 (by decide +kernel) rfl
theorem q859 : (Jvm.Cond.methodLink "AliasStreamsLaw" (172 : Nat) ({ cls := "AliasStreamsLaw", name := "taken", desc := "(LAliasStreams;II[J)I" } : Jvm.MethodName)) ∈ zWd := zmem 859 (by decide +kernel) rfl
theorem q860 : (Jvm.Cond.static ({ cls := "AliasStreamsLaw", name := "taken", desc := "(LAliasStreams;II[J)I" } : Jvm.MethodName)) ∈ zWd := zmem 860 (by decide +kernel) rfl
theorem q862 : (Jvm.Cond.methodLink "AliasStreamsLaw" (70 : Nat) ({ cls := "AliasStreams", name := "taken", desc := "(II)I" } : Jvm.MethodName)) ∈ zWd := zmem 862 (by decide +kernel) rfl
theorem q863 : (Jvm.Cond.instanceMethod ({ cls := "AliasStreams", name := "taken", desc := "(II)I" } : Jvm.MethodName)) ∈ zWd := zmem 863 (by decide +kernel) rfl
theorem q864 : (Jvm.Cond.selects "AliasStreams" ({ cls := "AliasStreams", name := "taken", desc := "(II)I" } : Jvm.MethodName) ({ cls := "AliasStreams", name := "taken", desc := "(II)I" } : Jvm.MethodName)) ∈ zWd := zmem 864 (by decide +kernel) rfl
theorem q865 : (Jvm.Cond.code ({ cls := "AliasStreams", name := "taken", desc := "(II)I" } : Jvm.MethodName) prog_1_method_21_code (3 : Nat) (Option.some Jvm.ClassFile.FieldType.int)) ∈ zWd := zmem 865 (by decide +kernel) rfl
theorem q868 : (Jvm.Cond.methodLink "AliasStreamsLaw" (183 : Nat) ({ cls := "AliasStreamsLaw", name := "digitsWith", desc := "(LAliasStreams;I[J)I" } : Jvm.MethodName)) ∈ zWd := zmem 868 (by decide +kernel) rfl
theorem q869 : (Jvm.Cond.static ({ cls := "AliasStreamsLaw", name := "digitsWith", desc := "(LAliasStreams;I[J)I" } : Jvm.MethodName)) ∈ zWd := zmem 869 (by decide +kernel) rfl
theorem q871 : (Jvm.Cond.methodLink "AliasStreamsLaw" (73 : Nat) ({ cls := "AliasStreams", name := "digitsWith", desc := "(I)I" } : Jvm.MethodName)) ∈ zWd := zmem 871 (by decide +kernel) rfl
theorem q872 : (Jvm.Cond.instanceMethod ({ cls := "AliasStreams", name := "digitsWith", desc := "(I)I" } : Jvm.MethodName)) ∈ zWd := zmem 872 (by decide +kernel) rfl
theorem q873 : (Jvm.Cond.selects "AliasStreams" ({ cls := "AliasStreams", name := "digitsWith", desc := "(I)I" } : Jvm.MethodName) ({ cls := "AliasStreams", name := "digitsWith", desc := "(I)I" } : Jvm.MethodName)) ∈ zWd := zmem 873 (by decide +kernel) rfl
theorem q874 : (Jvm.Cond.code ({ cls := "AliasStreams", name := "digitsWith", desc := "(I)I" } : Jvm.MethodName) prog_1_method_24_code (2 : Nat) (Option.some Jvm.ClassFile.FieldType.int)) ∈ zWd := zmem 874 (by decide +kernel) rfl
theorem q876 : (Jvm.Cond.methodLinkNest "AliasStreams" (318 : Nat) ({ cls := "AliasStreams$Symbols", name := "useOneModel", desc := "(I)V" } : Jvm.MethodName) "AliasStreams") ∈ zNs := zmemN 876 (by decide +kernel) rfl
theorem q878 : (Jvm.Cond.instanceMethod ({ cls := "AliasStreams$Symbols", name := "useOneModel", desc := "(I)V" } : Jvm.MethodName)) ∈ zWd := zmem 878 (by decide +kernel) rfl
theorem q879 : (Jvm.Cond.code ({ cls := "AliasStreams$Symbols", name := "useOneModel", desc := "(I)V" } : Jvm.MethodName) prog_8_method_4_code (3 : Nat) (Option.none : Option Jvm.ClassFile.FieldType)) ∈ zWd := zmem 879 (by decide +kernel) rfl
theorem q880 : (Jvm.Cond.methodLink "AliasStreamsLaw" (186 : Nat) ({ cls := "AliasStreamsLaw", name := "product", desc := "(LAliasStreams;III[J)I" } : Jvm.MethodName)) ∈ zWd := zmem 880 (by decide +kernel) rfl
theorem q881 : (Jvm.Cond.static ({ cls := "AliasStreamsLaw", name := "product", desc := "(LAliasStreams;III[J)I" } : Jvm.MethodName)) ∈ zWd := zmem 881 (by decide +kernel) rfl
theorem q883 : (Jvm.Cond.methodLink "AliasStreamsLaw" (76 : Nat) ({ cls := "AliasStreams", name := "product", desc := "(III)J" } : Jvm.MethodName)) ∈ zWd := zmem 883 (by decide +kernel) rfl
theorem q884 : (Jvm.Cond.instanceMethod ({ cls := "AliasStreams", name := "product", desc := "(III)J" } : Jvm.MethodName)) ∈ zWd := zmem 884 (by decide +kernel) rfl
theorem q885 : (Jvm.Cond.selects "AliasStreams" ({ cls := "AliasStreams", name := "product", desc := "(III)J" } : Jvm.MethodName) ({ cls := "AliasStreams", name := "product", desc := "(III)J" } : Jvm.MethodName)) ∈ zWd := zmem 885 (by decide +kernel) rfl
theorem q886 : (Jvm.Cond.code ({ cls := "AliasStreams", name := "product", desc := "(III)J" } : Jvm.MethodName) prog_1_method_25_code (4 : Nat) (Option.some Jvm.ClassFile.FieldType.long)) ∈ zWd := zmem 886 (by decide +kernel) rfl
theorem q889 : (Jvm.Cond.methodLinkNest "AliasStreams" (328 : Nat) ({ cls := "AliasStreams$Symbols", name := "multiply", desc := "(LAliasStreams$Model;II)J" } : Jvm.MethodName) "AliasStreams") ∈ zNs := zmemN 889 (by decide +kernel) rfl
theorem q891 : (Jvm.Cond.instanceMethod ({ cls := "AliasStreams$Symbols", name := "multiply", desc := "(LAliasStreams$Model;II)J" } : Jvm.MethodName)) ∈ zWd := zmem 891 (by decide +kernel) rfl
theorem q892 : (Jvm.Cond.code ({ cls := "AliasStreams$Symbols", name := "multiply", desc := "(LAliasStreams$Model;II)J" } : Jvm.MethodName) prog_8_method_6_code (7 : Nat) (Option.some Jvm.ClassFile.FieldType.long)) ∈ zWd := zmem 892 (by decide +kernel) rfl
theorem q893 : (Jvm.Cond.methodLink "AliasStreams$Symbols" (42 : Nat) ({ cls := "AliasStreams$Symbols", name := "has", desc := "(I)Z" } : Jvm.MethodName)) ∈ zWd := zmem 893 (by decide +kernel) rfl
theorem q894 : (Jvm.Cond.methodLink "AliasStreamsLaw" (189 : Nat) ({ cls := "AliasStreamsLaw", name := "bestModel", desc := "(LAliasStreams;II[J)I" } : Jvm.MethodName)) ∈ zWd := zmem 894 (by decide +kernel) rfl
theorem q895 : (Jvm.Cond.static ({ cls := "AliasStreamsLaw", name := "bestModel", desc := "(LAliasStreams;II[J)I" } : Jvm.MethodName)) ∈ zWd := zmem 895 (by decide +kernel) rfl
theorem q897 : (Jvm.Cond.methodLink "AliasStreamsLaw" (80 : Nat) ({ cls := "AliasStreams", name := "bestModel", desc := "(II)I" } : Jvm.MethodName)) ∈ zWd := zmem 897 (by decide +kernel) rfl
theorem q898 : (Jvm.Cond.instanceMethod ({ cls := "AliasStreams", name := "bestModel", desc := "(II)I" } : Jvm.MethodName)) ∈ zWd := zmem 898 (by decide +kernel) rfl
theorem q899 : (Jvm.Cond.selects "AliasStreams" ({ cls := "AliasStreams", name := "bestModel", desc := "(II)I" } : Jvm.MethodName) ({ cls := "AliasStreams", name := "bestModel", desc := "(II)I" } : Jvm.MethodName)) ∈ zWd := zmem 899 (by decide +kernel) rfl
theorem q900 : (Jvm.Cond.code ({ cls := "AliasStreams", name := "bestModel", desc := "(II)I" } : Jvm.MethodName) prog_1_method_26_code (9 : Nat) (Option.some Jvm.ClassFile.FieldType.int)) ∈ zWd := zmem 900 (by decide +kernel) rfl
theorem q902 : (Jvm.Cond.methodLink "AliasStreamsLaw" (196 : Nat) ({ cls := "AliasStreamsLaw", name := "effect", desc := "(LAliasStreams;III[J)I" } : Jvm.MethodName)) ∈ zWd := zmem 902 (by decide +kernel) rfl
theorem q903 : (Jvm.Cond.static ({ cls := "AliasStreamsLaw", name := "effect", desc := "(LAliasStreams;III[J)I" } : Jvm.MethodName)) ∈ zWd := zmem 903 (by decide +kernel) rfl
theorem q905 : (Jvm.Cond.methodLink "AliasStreamsLaw" (83 : Nat) ({ cls := "AliasStreams", name := "effect", desc := "(III)I" } : Jvm.MethodName)) ∈ zWd := zmem 905 (by decide +kernel) rfl
theorem q906 : (Jvm.Cond.instanceMethod ({ cls := "AliasStreams", name := "effect", desc := "(III)I" } : Jvm.MethodName)) ∈ zWd := zmem 906 (by decide +kernel) rfl
theorem q907 : (Jvm.Cond.selects "AliasStreams" ({ cls := "AliasStreams", name := "effect", desc := "(III)I" } : Jvm.MethodName) ({ cls := "AliasStreams", name := "effect", desc := "(III)I" } : Jvm.MethodName)) ∈ zWd := zmem 907 (by decide +kernel) rfl
theorem q908 : (Jvm.Cond.code ({ cls := "AliasStreams", name := "effect", desc := "(III)I" } : Jvm.MethodName) prog_1_method_28_code (4 : Nat) (Option.some Jvm.ClassFile.FieldType.int)) ∈ zWd := zmem 908 (by decide +kernel) rfl
theorem q910 : (Jvm.Cond.methodLinkNest "AliasStreams" (337 : Nat) ({ cls := "AliasStreams$Tape", name := "copyFrom", desc := "(LAliasStreams$Tape;)V" } : Jvm.MethodName) "AliasStreams") ∈ zNs := zmemN 910 (by decide +kernel) rfl
theorem q911 : (Jvm.Cond.methodLinkNest "AliasStreams" (341 : Nat) ({ cls := "AliasStreams$Taking", name := "countOtherSymbols", desc := "(LAliasStreams$Taking;)I" } : Jvm.MethodName) "AliasStreams") ∈ zNs := zmemN 911 (by decide +kernel) rfl
theorem q913 : (Jvm.Cond.instanceMethod ({ cls := "AliasStreams$Taking", name := "countOtherSymbols", desc := "(LAliasStreams$Taking;)I" } : Jvm.MethodName)) ∈ zWd := zmem 913 (by decide +kernel) rfl
theorem q914 : (Jvm.Cond.code ({ cls := "AliasStreams$Taking", name := "countOtherSymbols", desc := "(LAliasStreams$Taking;)I" } : Jvm.MethodName) prog_9_method_4_code (4 : Nat) (Option.some Jvm.ClassFile.FieldType.int)) ∈ zWd := zmem 914 (by decide +kernel) rfl
theorem q915 : (Jvm.Cond.methodLink "AliasStreamsLaw" (201 : Nat) ({ cls := "AliasStreamsLaw", name := "runScript", desc := "(LAliasStreams;IJ[J)I" } : Jvm.MethodName)) ∈ zWd := zmem 915 (by decide +kernel) rfl
theorem q916 : (Jvm.Cond.static ({ cls := "AliasStreamsLaw", name := "runScript", desc := "(LAliasStreams;IJ[J)I" } : Jvm.MethodName)) ∈ zWd := zmem 916 (by decide +kernel) rfl
theorem q918 : (Jvm.Cond.methodLink "AliasStreamsLaw" (86 : Nat) ({ cls := "AliasStreams", name := "runScript", desc := "(IJ)I" } : Jvm.MethodName)) ∈ zWd := zmem 918 (by decide +kernel) rfl
theorem q919 : (Jvm.Cond.instanceMethod ({ cls := "AliasStreams", name := "runScript", desc := "(IJ)I" } : Jvm.MethodName)) ∈ zWd := zmem 919 (by decide +kernel) rfl
theorem q920 : (Jvm.Cond.selects "AliasStreams" ({ cls := "AliasStreams", name := "runScript", desc := "(IJ)I" } : Jvm.MethodName) ({ cls := "AliasStreams", name := "runScript", desc := "(IJ)I" } : Jvm.MethodName)) ∈ zWd := zmem 920 (by decide +kernel) rfl
theorem q921 : (Jvm.Cond.code ({ cls := "AliasStreams", name := "runScript", desc := "(IJ)I" } : Jvm.MethodName) prog_1_method_29_code (4 : Nat) (Option.some Jvm.ClassFile.FieldType.int)) ∈ zWd := zmem 921 (by decide +kernel) rfl
theorem q923 : (Jvm.Cond.fieldLinkNest "AliasStreams" (347 : Nat) "AliasStreams$Script" "GROUP_VALUES" "[J" "AliasStreams") ∈ zNs := zmemN 923 (by decide +kernel) rfl
theorem q926 : (Jvm.Cond.methodLinkNest "AliasStreams" (353 : Nat) ({ cls := "AliasStreams$Script", name := "run", desc := "(LAliasStreams$State;LAliasStreams$Models;IJ)I" } : Jvm.MethodName) "AliasStreams") ∈ zNs := zmemN 926 (by decide +kernel) rfl
theorem q928 : (Jvm.Cond.instanceMethod ({ cls := "AliasStreams$Script", name := "run", desc := "(LAliasStreams$State;LAliasStreams$Models;IJ)I" } : Jvm.MethodName)) ∈ zWd := zmem 928 (by decide +kernel) rfl
theorem q929 : (Jvm.Cond.code ({ cls := "AliasStreams$Script", name := "run", desc := "(LAliasStreams$State;LAliasStreams$Models;IJ)I" } : Jvm.MethodName) prog_6_method_2_code (8 : Nat) (Option.some Jvm.ClassFile.FieldType.int)) ∈ zWd := zmem 929 (by decide +kernel) rfl
theorem q930 : (Jvm.Cond.methodLinkNest "AliasStreams$Script" (32 : Nat) ({ cls := "AliasStreams$State", name := "copyFrom", desc := "(LAliasStreams$State;)V" } : Jvm.MethodName) "AliasStreams") ∈ zNs := zmemN 930 (by decide +kernel) rfl
theorem q931 : (Jvm.Cond.methodLink "AliasStreams$Script" (36 : Nat) ({ cls := "AliasStreams$Script", name := "groupOf", desc := "(JI)I" } : Jvm.MethodName)) ∈ zWd := zmem 931 (by decide +kernel) rfl
theorem q932 : (Jvm.Cond.static ({ cls := "AliasStreams$Script", name := "groupOf", desc := "(JI)I" } : Jvm.MethodName)) ∈ zWd := zmem 932 (by decide +kernel) rfl
theorem q933 : (Jvm.Cond.code ({ cls := "AliasStreams$Script", name := "groupOf", desc := "(JI)I" } : Jvm.MethodName) prog_6_method_3_code (5 : Nat) (Option.some Jvm.ClassFile.FieldType.int)) ∈ zWd := zmem 933 (by decide +kernel) rfl
theorem q934 : (Jvm.Cond.fieldLink "AliasStreams$Script" (44 : Nat) "AliasStreams$Script" "GROUP_VALUES" "[J") ∈ zWd := zmem 934 (by decide +kernel) rfl
theorem q935 : (Jvm.Cond.constantLong "AliasStreams$Script" (48 : Nat) (10000 : Int64)) ∈ zWd := zmem 935 (by decide +kernel) rfl
theorem q936 : (Jvm.Cond.methodLink "AliasStreams$Script" (40 : Nat) ({ cls := "AliasStreams$Script", name := "execute", desc := "(ILAliasStreams$Models;)Z" } : Jvm.MethodName)) ∈ zWd := zmem 936 (by decide +kernel) rfl
theorem q938 : (Jvm.Cond.instanceMethod ({ cls := "AliasStreams$Script", name := "execute", desc := "(ILAliasStreams$Models;)Z" } : Jvm.MethodName)) ∈ zWd := zmem 938 (by decide +kernel) rfl
theorem q939 : (Jvm.Cond.code ({ cls := "AliasStreams$Script", name := "execute", desc := "(ILAliasStreams$Models;)Z" } : Jvm.MethodName) prog_6_method_4_code (5 : Nat) (Option.some Jvm.ClassFile.FieldType.boolean)) ∈ zWd := zmem 939 (by decide +kernel) rfl
theorem q940 : (Jvm.Cond.methodLink "AliasStreams$Script" (50 : Nat) ({ cls := "AliasStreams$Script", name := "addLast", desc := "(ILAliasStreams$Models;)Z" } : Jvm.MethodName)) ∈ zWd := zmem 940 (by decide +kernel) rfl
theorem q942 : (Jvm.Cond.instanceMethod ({ cls := "AliasStreams$Script", name := "addLast", desc := "(ILAliasStreams$Models;)Z" } : Jvm.MethodName)) ∈ zWd := zmem 942 (by decide +kernel) rfl
theorem q943 : (Jvm.Cond.code ({ cls := "AliasStreams$Script", name := "addLast", desc := "(ILAliasStreams$Models;)Z" } : Jvm.MethodName) prog_6_method_5_code (3 : Nat) (Option.some Jvm.ClassFile.FieldType.boolean)) ∈ zWd := zmem 943 (by decide +kernel) rfl
theorem q944 : (Jvm.Cond.methodLinkNest "AliasStreams$Script" (85 : Nat) ({ cls := "AliasStreams$Models", name := "allowItem", desc := "(I)Z" } : Jvm.MethodName) "AliasStreams") ∈ zNs := zmemN 944 (by decide +kernel) rfl
theorem q945 : (Jvm.Cond.methodLinkNest "AliasStreams$Script" (93 : Nat) ({ cls := "AliasStreams$State", name := "addItem", desc := "(II)V" } : Jvm.MethodName) "AliasStreams") ∈ zNs := zmemN 945 (by decide +kernel) rfl
theorem q946 : (Jvm.Cond.methodLink "AliasStreams$Script" (53 : Nat) ({ cls := "AliasStreams$Script", name := "dropOne", desc := "(I)Z" } : Jvm.MethodName)) ∈ zWd := zmem 946 (by decide +kernel) rfl
theorem q948 : (Jvm.Cond.instanceMethod ({ cls := "AliasStreams$Script", name := "dropOne", desc := "(I)Z" } : Jvm.MethodName)) ∈ zWd := zmem 948 (by decide +kernel) rfl
theorem q949 : (Jvm.Cond.code ({ cls := "AliasStreams$Script", name := "dropOne", desc := "(I)Z" } : Jvm.MethodName) prog_6_method_6_code (2 : Nat) (Option.some Jvm.ClassFile.FieldType.boolean)) ∈ zWd := zmem 949 (by decide +kernel) rfl
theorem q950 : (Jvm.Cond.methodLinkNest "AliasStreams$Script" (97 : Nat) ({ cls := "AliasStreams$State", name := "hasItem", desc := "(I)Z" } : Jvm.MethodName) "AliasStreams") ∈ zNs := zmemN 950 (by decide +kernel) rfl
theorem q951 : (Jvm.Cond.methodLinkNest "AliasStreams$Script" (100 : Nat) ({ cls := "AliasStreams$State", name := "dropItem", desc := "(I)V" } : Jvm.MethodName) "AliasStreams") ∈ zNs := zmemN 951 (by decide +kernel) rfl
theorem q952 : (Jvm.Cond.methodLink "AliasStreams$Script" (57 : Nat) ({ cls := "AliasStreams$Script", name := "fillTape", desc := "(LAliasStreams$Models;)Z" } : Jvm.MethodName)) ∈ zWd := zmem 952 (by decide +kernel) rfl
theorem q954 : (Jvm.Cond.instanceMethod ({ cls := "AliasStreams$Script", name := "fillTape", desc := "(LAliasStreams$Models;)Z" } : Jvm.MethodName)) ∈ zWd := zmem 954 (by decide +kernel) rfl
theorem q955 : (Jvm.Cond.code ({ cls := "AliasStreams$Script", name := "fillTape", desc := "(LAliasStreams$Models;)Z" } : Jvm.MethodName) prog_6_method_7_code (2 : Nat) (Option.some Jvm.ClassFile.FieldType.boolean)) ∈ zWd := zmem 955 (by decide +kernel) rfl
theorem q956 : (Jvm.Cond.methodLinkNest "AliasStreams$Script" (104 : Nat) ({ cls := "AliasStreams$Symbols", name := "list", desc := "(LAliasStreams$State;)V" } : Jvm.MethodName) "AliasStreams") ∈ zNs := zmemN 956 (by decide +kernel) rfl
theorem q957 : (Jvm.Cond.methodLinkNest "AliasStreams$Script" (107 : Nat) ({ cls := "AliasStreams$Symbols", name := "firstUnfit", desc := "(LAliasStreams$Models;)I" } : Jvm.MethodName) "AliasStreams") ∈ zNs := zmemN 957 (by decide +kernel) rfl
theorem q958 : (Jvm.Cond.methodLinkNest "AliasStreams$Script" (111 : Nat) ({ cls := "AliasStreams$Tape", name := "fill", desc := "(LAliasStreams$Symbols;LAliasStreams$Models;)V" } : Jvm.MethodName) "AliasStreams") ∈ zNs := zmemN 958 (by decide +kernel) rfl
theorem q959 : (Jvm.Cond.methodLink "AliasStreams$Script" (61 : Nat) ({ cls := "AliasStreams$Script", name := "takeMessage", desc := "(LAliasStreams$Models;)Z" } : Jvm.MethodName)) ∈ zWd := zmem 959 (by decide +kernel) rfl
theorem q961 : (Jvm.Cond.instanceMethod ({ cls := "AliasStreams$Script", name := "takeMessage", desc := "(LAliasStreams$Models;)Z" } : Jvm.MethodName)) ∈ zWd := zmem 961 (by decide +kernel) rfl
theorem q962 : (Jvm.Cond.code ({ cls := "AliasStreams$Script", name := "takeMessage", desc := "(LAliasStreams$Models;)Z" } : Jvm.MethodName) prog_6_method_8_code (2 : Nat) (Option.some Jvm.ClassFile.FieldType.boolean)) ∈ zWd := zmem 962 (by decide +kernel) rfl
theorem q963 : (Jvm.Cond.methodLinkNest "AliasStreams$Script" (115 : Nat) ({ cls := "AliasStreams$Taking", name := "takeAll", desc := "(LAliasStreams$Tape;LAliasStreams$Models;)V" } : Jvm.MethodName) "AliasStreams") ∈ zNs := zmemN 963 (by decide +kernel) rfl
theorem q964 : (Jvm.Cond.methodLinkNest "AliasStreams$Script" (122 : Nat) ({ cls := "AliasStreams$Tape", name := "itemsNeeded", desc := "()I" } : Jvm.MethodName) "AliasStreams") ∈ zNs := zmemN 964 (by decide +kernel) rfl
theorem q965 : (Jvm.Cond.methodLinkNest "AliasStreams$Script" (126 : Nat) ({ cls := "AliasStreams$State", name := "takeMessage", desc := "(LAliasStreams$Taking;)V" } : Jvm.MethodName) "AliasStreams") ∈ zNs := zmemN 965 (by decide +kernel) rfl
theorem q966 : (Jvm.Cond.methodLink "AliasStreams$Script" (64 : Nat) ({ cls := "AliasStreams$Script", name := "changeDigit", desc := "(II)Z" } : Jvm.MethodName)) ∈ zWd := zmem 966 (by decide +kernel) rfl
theorem q968 : (Jvm.Cond.instanceMethod ({ cls := "AliasStreams$Script", name := "changeDigit", desc := "(II)Z" } : Jvm.MethodName)) ∈ zWd := zmem 968 (by decide +kernel) rfl
theorem q969 : (Jvm.Cond.code ({ cls := "AliasStreams$Script", name := "changeDigit", desc := "(II)Z" } : Jvm.MethodName) prog_6_method_9_code (3 : Nat) (Option.some Jvm.ClassFile.FieldType.boolean)) ∈ zWd := zmem 969 (by decide +kernel) rfl
theorem q970 : (Jvm.Cond.methodLinkNest "AliasStreams$Script" (129 : Nat) ({ cls := "AliasStreams$Tape", name := "hasDigit", desc := "(I)Z" } : Jvm.MethodName) "AliasStreams") ∈ zNs := zmemN 970 (by decide +kernel) rfl
theorem q971 : (Jvm.Cond.methodLink "AliasStreams$Script" (78 : Nat) ({ cls := "AliasStreams$Script", name := "isIntact", desc := "(LAliasStreams$Models;)Z" } : Jvm.MethodName)) ∈ zWd := zmem 971 (by decide +kernel) rfl
theorem q973 : (Jvm.Cond.instanceMethod ({ cls := "AliasStreams$Script", name := "isIntact", desc := "(LAliasStreams$Models;)Z" } : Jvm.MethodName)) ∈ zWd := zmem 973 (by decide +kernel) rfl
theorem q974 : (Jvm.Cond.code ({ cls := "AliasStreams$Script", name := "isIntact", desc := "(LAliasStreams$Models;)Z" } : Jvm.MethodName) prog_6_method_10_code (2 : Nat) (Option.some Jvm.ClassFile.FieldType.boolean)) ∈ zWd := zmem 974 (by decide +kernel) rfl
theorem q975 : (Jvm.Cond.methodLink "AliasStreams$Script" (81 : Nat) ({ cls := "AliasStreams$Script", name := "takes", desc := "(IILAliasStreams$Models;)Z" } : Jvm.MethodName)) ∈ zWd := zmem 975 (by decide +kernel) rfl
theorem q977 : (Jvm.Cond.instanceMethod ({ cls := "AliasStreams$Script", name := "takes", desc := "(IILAliasStreams$Models;)Z" } : Jvm.MethodName)) ∈ zWd := zmem 977 (by decide +kernel) rfl
theorem q978 : (Jvm.Cond.code ({ cls := "AliasStreams$Script", name := "takes", desc := "(IILAliasStreams$Models;)Z" } : Jvm.MethodName) prog_6_method_11_code (4 : Nat) (Option.some Jvm.ClassFile.FieldType.boolean)) ∈ zWd := zmem 978 (by decide +kernel) rfl
theorem q979 : (Jvm.Cond.methodLinkNest "AliasStreams$Script" (140 : Nat) ({ cls := "AliasStreams$Tape", name := "hasPlanned", desc := "(I)Z" } : Jvm.MethodName) "AliasStreams") ∈ zNs := zmemN 979 (by decide +kernel) rfl
theorem q980 : (Jvm.Cond.methodLink "AliasStreamsLaw" (205 : Nat) ({ cls := "AliasStreamsLaw", name := "simulate", desc := "(LAliasStreams;JI[J)I" } : Jvm.MethodName)) ∈ zWd := zmem 980 (by decide +kernel) rfl
theorem q981 : (Jvm.Cond.static ({ cls := "AliasStreamsLaw", name := "simulate", desc := "(LAliasStreams;JI[J)I" } : Jvm.MethodName)) ∈ zWd := zmem 981 (by decide +kernel) rfl
theorem q983 : (Jvm.Cond.methodLink "AliasStreamsLaw" (90 : Nat) ({ cls := "AliasStreams", name := "simulate", desc := "(JI)I" } : Jvm.MethodName)) ∈ zWd := zmem 983 (by decide +kernel) rfl
theorem q984 : (Jvm.Cond.instanceMethod ({ cls := "AliasStreams", name := "simulate", desc := "(JI)I" } : Jvm.MethodName)) ∈ zWd := zmem 984 (by decide +kernel) rfl
theorem q985 : (Jvm.Cond.selects "AliasStreams" ({ cls := "AliasStreams", name := "simulate", desc := "(JI)I" } : Jvm.MethodName) ({ cls := "AliasStreams", name := "simulate", desc := "(JI)I" } : Jvm.MethodName)) ∈ zWd := zmem 985 (by decide +kernel) rfl
theorem q986 : (Jvm.Cond.code ({ cls := "AliasStreams", name := "simulate", desc := "(JI)I" } : Jvm.MethodName) prog_1_method_30_code (8 : Nat) (Option.some Jvm.ClassFile.FieldType.int)) ∈ zWd := zmem 986 (by decide +kernel) rfl
theorem q988 : (Jvm.Cond.constantLong "AliasStreams" (359 : Nat) (6364136223846793005 : Int64)) ∈ zWd := zmem 988 (by decide +kernel) rfl
theorem q989 : (Jvm.Cond.constantLong "AliasStreams" (361 : Nat) (1442695040888963407 : Int64)) ∈ zWd := zmem 989 (by decide +kernel) rfl
theorem q990 : (Jvm.Cond.methodLinkNest "AliasStreams" (363 : Nat) ({ cls := "AliasStreams$Tape", name := "disturb", desc := "(I)V" } : Jvm.MethodName) "AliasStreams") ∈ zNs := zmemN 990 (by decide +kernel) rfl
theorem q992 : (Jvm.Cond.instanceMethod ({ cls := "AliasStreams$Tape", name := "disturb", desc := "(I)V" } : Jvm.MethodName)) ∈ zWd := zmem 992 (by decide +kernel) rfl
theorem q993 : (Jvm.Cond.code ({ cls := "AliasStreams$Tape", name := "disturb", desc := "(I)V" } : Jvm.MethodName) prog_10_method_10_code (3 : Nat) (Option.none : Option Jvm.ClassFile.FieldType)) ∈ zWd := zmem 993 (by decide +kernel) rfl
theorem q994 : (Jvm.Cond.methodLink "AliasStreams$Tape" (81 : Nat) ({ cls := "AliasStreams$Tape", name := "hasDigit", desc := "(I)Z" } : Jvm.MethodName)) ∈ zWd := zmem 994 (by decide +kernel) rfl
theorem q995 : (Jvm.Cond.methodLink "AliasStreamsLaw" (209 : Nat) ({ cls := "AliasStreamsLaw", name := "save", desc := "(LAliasStreams;I[J)I" } : Jvm.MethodName)) ∈ zWd := zmem 995 (by decide +kernel) rfl
theorem q996 : (Jvm.Cond.static ({ cls := "AliasStreamsLaw", name := "save", desc := "(LAliasStreams;I[J)I" } : Jvm.MethodName)) ∈ zWd := zmem 996 (by decide +kernel) rfl
theorem q998 : (Jvm.Cond.methodLink "AliasStreamsLaw" (94 : Nat) ({ cls := "AliasStreams", name := "save", desc := "(I)I" } : Jvm.MethodName)) ∈ zWd := zmem 998 (by decide +kernel) rfl
theorem q999 : (Jvm.Cond.instanceMethod ({ cls := "AliasStreams", name := "save", desc := "(I)I" } : Jvm.MethodName)) ∈ zWd := zmem 999 (by decide +kernel) rfl
theorem q1000 : (Jvm.Cond.selects "AliasStreams" ({ cls := "AliasStreams", name := "save", desc := "(I)I" } : Jvm.MethodName) ({ cls := "AliasStreams", name := "save", desc := "(I)I" } : Jvm.MethodName)) ∈ zWd := zmem 1000 (by decide +kernel) rfl
theorem q1001 : (Jvm.Cond.code ({ cls := "AliasStreams", name := "save", desc := "(I)I" } : Jvm.MethodName) prog_1_method_31_code (2 : Nat) (Option.some Jvm.ClassFile.FieldType.int)) ∈ zWd := zmem 1001 (by decide +kernel) rfl
theorem q1002 : (Jvm.Cond.methodLink "AliasStreams" (366 : Nat) ({ cls := "AliasStreams", name := "isSaveSlot", desc := "(I)Z" } : Jvm.MethodName)) ∈ zWd := zmem 1002 (by decide +kernel) rfl
theorem q1003 : (Jvm.Cond.static ({ cls := "AliasStreams", name := "isSaveSlot", desc := "(I)Z" } : Jvm.MethodName)) ∈ zWd := zmem 1003 (by decide +kernel) rfl
theorem q1004 : (Jvm.Cond.code ({ cls := "AliasStreams", name := "isSaveSlot", desc := "(I)Z" } : Jvm.MethodName) prog_1_method_35_code (1 : Nat) (Option.some Jvm.ClassFile.FieldType.boolean)) ∈ zWd := zmem 1004 (by decide +kernel) rfl
theorem q1006 : (Jvm.Cond.methodLinkNest "AliasStreams" (375 : Nat) ({ cls := "AliasStreams$State", name := "copyFrom", desc := "(LAliasStreams$State;)V" } : Jvm.MethodName) "AliasStreams") ∈ zNs := zmemN 1006 (by decide +kernel) rfl
theorem q1007 : (Jvm.Cond.methodLink "AliasStreamsLaw" (212 : Nat) ({ cls := "AliasStreamsLaw", name := "restore", desc := "(LAliasStreams;I[J)I" } : Jvm.MethodName)) ∈ zWd := zmem 1007 (by decide +kernel) rfl
theorem q1008 : (Jvm.Cond.static ({ cls := "AliasStreamsLaw", name := "restore", desc := "(LAliasStreams;I[J)I" } : Jvm.MethodName)) ∈ zWd := zmem 1008 (by decide +kernel) rfl
theorem q1010 : (Jvm.Cond.methodLink "AliasStreamsLaw" (97 : Nat) ({ cls := "AliasStreams", name := "restore", desc := "(I)I" } : Jvm.MethodName)) ∈ zWd := zmem 1010 (by decide +kernel) rfl
theorem q1011 : (Jvm.Cond.instanceMethod ({ cls := "AliasStreams", name := "restore", desc := "(I)I" } : Jvm.MethodName)) ∈ zWd := zmem 1011 (by decide +kernel) rfl
theorem q1012 : (Jvm.Cond.selects "AliasStreams" ({ cls := "AliasStreams", name := "restore", desc := "(I)I" } : Jvm.MethodName) ({ cls := "AliasStreams", name := "restore", desc := "(I)I" } : Jvm.MethodName)) ∈ zWd := zmem 1012 (by decide +kernel) rfl
theorem q1013 : (Jvm.Cond.code ({ cls := "AliasStreams", name := "restore", desc := "(I)I" } : Jvm.MethodName) prog_1_method_32_code (2 : Nat) (Option.some Jvm.ClassFile.FieldType.int)) ∈ zWd := zmem 1013 (by decide +kernel) rfl
theorem q1015 : (Jvm.Cond.classLink "AliasStreamsLaw" (101 : Nat) "AliasStreamsModel") ∈ zWd := zmem 1015 (by decide +kernel) rfl
theorem q1016 : (Jvm.Cond.instantiable "AliasStreamsModel" (32 : Nat)) ∈ zWd := zmem 1016 (by decide +kernel) rfl
theorem q1017 : (Jvm.Cond.methodLink "AliasStreamsLaw" (103 : Nat) ({ cls := "AliasStreamsModel", name := "<init>", desc := "()V" } : Jvm.MethodName)) ∈ zWd := zmem 1017 (by decide +kernel) rfl
theorem q1018 : (Jvm.Cond.instanceMethod ({ cls := "AliasStreamsModel", name := "<init>", desc := "()V" } : Jvm.MethodName)) ∈ zWd := zmem 1018 (by decide +kernel) rfl
theorem q1019 : (Jvm.Cond.code ({ cls := "AliasStreamsModel", name := "<init>", desc := "()V" } : Jvm.MethodName) prog_13_method_1_code (1 : Nat) (Option.none : Option Jvm.ClassFile.FieldType)) ∈ zWd := zmem 1019 (by decide +kernel) rfl
theorem q1020 : (Jvm.Cond.methodLink "AliasStreamsModel" (1 : Nat) ({ cls := "java/lang/Object", name := "<init>", desc := "()V" } : Jvm.MethodName)) ∈ zWd := zmem 1020 (by decide +kernel) rfl
theorem q1021 : (Jvm.Cond.fieldLink "AliasStreamsModel" (84 : Nat) "AliasStreamsModel" "refusal" "I") ∈ zWd := zmem 1021 (by decide +kernel) rfl
theorem q1022 : (Jvm.Cond.fieldLink "AliasStreamsModel" (7 : Nat) "AliasStreamsModel" "text" "[I") ∈ zWd := zmem 1022 (by decide +kernel) rfl
theorem q1023 : (Jvm.Cond.fieldLink "AliasStreamsModel" (111 : Nat) "AliasStreamsModel" "textSize" "I") ∈ zWd := zmem 1023 (by decide +kernel) rfl
theorem q1024 : (Jvm.Cond.fieldLink "AliasStreamsModel" (118 : Nat) "AliasStreamsModel" "spot" "I") ∈ zWd := zmem 1024 (by decide +kernel) rfl
theorem q1025 : (Jvm.Cond.fieldLink "AliasStreamsModel" (13 : Nat) "AliasStreamsModel" "symbols" "I") ∈ zWd := zmem 1025 (by decide +kernel) rfl
theorem q1026 : (Jvm.Cond.fieldLink "AliasStreamsModel" (17 : Nat) "AliasStreamsModel" "models" "I") ∈ zWd := zmem 1026 (by decide +kernel) rfl
theorem q1027 : (Jvm.Cond.fieldLink "AliasStreamsModel" (121 : Nat) "AliasStreamsModel" "readSymbols" "I") ∈ zWd := zmem 1027 (by decide +kernel) rfl
theorem q1028 : (Jvm.Cond.fieldLink "AliasStreamsModel" (134 : Nat) "AliasStreamsModel" "readModels" "I") ∈ zWd := zmem 1028 (by decide +kernel) rfl
theorem q1029 : (Jvm.Cond.fieldLink "AliasStreamsModel" (20 : Nat) "AliasStreamsModel" "read" "[I") ∈ zWd := zmem 1029 (by decide +kernel) rfl
theorem q1030 : (Jvm.Cond.fieldLink "AliasStreamsModel" (23 : Nat) "AliasStreamsModel" "now" "[I") ∈ zWd := zmem 1030 (by decide +kernel) rfl
theorem q1031 : (Jvm.Cond.fieldLink "AliasStreamsModel" (26 : Nat) "AliasStreamsModel" "trial" "[I") ∈ zWd := zmem 1031 (by decide +kernel) rfl
theorem q1032 : (Jvm.Cond.fieldLink "AliasStreamsModel" (29 : Nat) "AliasStreamsModel" "other" "[I") ∈ zWd := zmem 1032 (by decide +kernel) rfl
theorem q1033 : (Jvm.Cond.fieldLink "AliasStreamsModel" (32 : Nat) "AliasStreamsModel" "diary" "[I") ∈ zWd := zmem 1033 (by decide +kernel) rfl
theorem q1034 : (Jvm.Cond.fieldLink "AliasStreamsModel" (155 : Nat) "AliasStreamsModel" "acts" "I") ∈ zWd := zmem 1034 (by decide +kernel) rfl
theorem q1035 : (Jvm.Cond.fieldLink "AliasStreamsModel" (35 : Nat) "AliasStreamsModel" "kept" "[I") ∈ zWd := zmem 1035 (by decide +kernel) rfl
theorem q1036 : (Jvm.Cond.fieldLink "AliasStreamsModel" (38 : Nat) "AliasStreamsModel" "isKept" "[Z") ∈ zWd := zmem 1036 (by decide +kernel) rfl
theorem q1037 : (Jvm.Cond.fieldLink "AliasStreamsModel" (42 : Nat) "AliasStreamsModel" "frequency" "[I") ∈ zWd := zmem 1037 (by decide +kernel) rfl
theorem q1038 : (Jvm.Cond.fieldLink "AliasStreamsModel" (45 : Nat) "AliasStreamsModel" "closed" "[I") ∈ zWd := zmem 1038 (by decide +kernel) rfl
theorem q1039 : (Jvm.Cond.fieldLink "AliasStreamsModel" (48 : Nat) "AliasStreamsModel" "alias" "[I") ∈ zWd := zmem 1039 (by decide +kernel) rfl
theorem q1040 : (Jvm.Cond.fieldLink "AliasStreamsModel" (51 : Nat) "AliasStreamsModel" "symbolOf" "[I") ∈ zWd := zmem 1040 (by decide +kernel) rfl
theorem q1041 : (Jvm.Cond.fieldLink "AliasStreamsModel" (54 : Nat) "AliasStreamsModel" "indexOf" "[I") ∈ zWd := zmem 1041 (by decide +kernel) rfl
theorem q1042 : (Jvm.Cond.fieldLink "AliasStreamsModel" (57 : Nat) "AliasStreamsModel" "slotOf" "[I") ∈ zWd := zmem 1042 (by decide +kernel) rfl
theorem q1043 : (Jvm.Cond.fieldLink "AliasStreamsModel" (60 : Nat) "AliasStreamsModel" "rests" "[I") ∈ zWd := zmem 1043 (by decide +kernel) rfl
theorem q1044 : (Jvm.Cond.fieldLink "AliasStreamsModel" (63 : Nat) "AliasStreamsModel" "isOpen" "[Z") ∈ zWd := zmem 1044 (by decide +kernel) rfl
theorem q1045 : (Jvm.Cond.fieldLink "AliasStreamsModel" (66 : Nat) "AliasStreamsModel" "took" "[I") ∈ zWd := zmem 1045 (by decide +kernel) rfl
theorem q1046 : (Jvm.Cond.fieldLink "AliasStreamsModel" (69 : Nat) "AliasStreamsModel" "stateAhead" "[I") ∈ zWd := zmem 1046 (by decide +kernel) rfl
theorem q1047 : (Jvm.Cond.fieldLink "AliasStreamsModel" (72 : Nat) "AliasStreamsModel" "digitsAhead" "[I") ∈ zWd := zmem 1047 (by decide +kernel) rfl
theorem q1048 : (Jvm.Cond.fieldLink "AliasStreamsModel" (102 : Nat) "AliasStreamsModel" "taken" "I") ∈ zWd := zmem 1048 (by decide +kernel) rfl
theorem q1049 : (Jvm.Cond.fieldLink "AliasStreamsModel" (75 : Nat) "AliasStreamsModel" "tookNow" "[I") ∈ zWd := zmem 1049 (by decide +kernel) rfl
theorem q1050 : (Jvm.Cond.fieldLink "AliasStreamsModel" (78 : Nat) "AliasStreamsModel" "sequence" "[I") ∈ zWd := zmem 1050 (by decide +kernel) rfl
theorem q1051 : (Jvm.Cond.fieldLink "AliasStreamsModel" (81 : Nat) "AliasStreamsModel" "modelOf" "[I") ∈ zWd := zmem 1051 (by decide +kernel) rfl
theorem q1052 : (Jvm.Cond.fieldLink "AliasStreamsModel" (99 : Nat) "AliasStreamsModel" "sequenced" "I") ∈ zWd := zmem 1052 (by decide +kernel) rfl
theorem q1118 : (Jvm.Cond.methodLink "AliasStreamsLaw" (110 : Nat) ({ cls := "AliasStreamsModel", name := "thrown", desc := "()I" } : Jvm.MethodName)) ∈ zWd := zmem 1118 (by decide +kernel) rfl
theorem q1119 : (Jvm.Cond.instanceMethod ({ cls := "AliasStreamsModel", name := "thrown", desc := "()I" } : Jvm.MethodName)) ∈ zWd := zmem 1119 (by decide +kernel) rfl
theorem q1120 : (Jvm.Cond.selects "AliasStreamsModel" ({ cls := "AliasStreamsModel", name := "thrown", desc := "()I" } : Jvm.MethodName) ({ cls := "AliasStreamsModel", name := "thrown", desc := "()I" } : Jvm.MethodName)) ∈ zWd := zmem 1120 (by decide +kernel) rfl
theorem q1121 : (Jvm.Cond.code ({ cls := "AliasStreamsModel", name := "thrown", desc := "()I" } : Jvm.MethodName) prog_13_method_2_code (1 : Nat) (Option.some Jvm.ClassFile.FieldType.int)) ∈ zWd := zmem 1121 (by decide +kernel) rfl
theorem q1122 : (Jvm.Cond.methodLink "AliasStreamsLaw" (109 : Nat) ({ cls := "AliasStreamsModel", name := "append", desc := "(I)I" } : Jvm.MethodName)) ∈ zWd := zmem 1122 (by decide +kernel) rfl
theorem q1123 : (Jvm.Cond.instanceMethod ({ cls := "AliasStreamsModel", name := "append", desc := "(I)I" } : Jvm.MethodName)) ∈ zWd := zmem 1123 (by decide +kernel) rfl
theorem q1124 : (Jvm.Cond.selects "AliasStreamsModel" ({ cls := "AliasStreamsModel", name := "append", desc := "(I)I" } : Jvm.MethodName) ({ cls := "AliasStreamsModel", name := "append", desc := "(I)I" } : Jvm.MethodName)) ∈ zWd := zmem 1124 (by decide +kernel) rfl
theorem q1125 : (Jvm.Cond.code ({ cls := "AliasStreamsModel", name := "append", desc := "(I)I" } : Jvm.MethodName) prog_13_method_16_code (2 : Nat) (Option.some Jvm.ClassFile.FieldType.int)) ∈ zWd := zmem 1125 (by decide +kernel) rfl
theorem q1126 : (Jvm.Cond.constantLong "AliasStreamsModel" (109 : Nat) (255 : Int64)) ∈ zWd := zmem 1126 (by decide +kernel) rfl
theorem q1127 : (Jvm.Cond.methodLink "AliasStreamsModel" (87 : Nat) ({ cls := "AliasStreamsModel", name := "in", desc := "(JJJ)Z" } : Jvm.MethodName)) ∈ zWd := zmem 1127 (by decide +kernel) rfl
theorem q1128 : (Jvm.Cond.static ({ cls := "AliasStreamsModel", name := "in", desc := "(JJJ)Z" } : Jvm.MethodName)) ∈ zWd := zmem 1128 (by decide +kernel) rfl
theorem q1129 : (Jvm.Cond.code ({ cls := "AliasStreamsModel", name := "in", desc := "(JJJ)Z" } : Jvm.MethodName) prog_13_method_4_code (6 : Nat) (Option.some Jvm.ClassFile.FieldType.boolean)) ∈ zWd := zmem 1129 (by decide +kernel) rfl
theorem q1130 : (Jvm.Cond.methodLink "AliasStreamsModel" (114 : Nat) ({ cls := "AliasStreamsModel", name := "refused", desc := "(I)Z" } : Jvm.MethodName)) ∈ zWd := zmem 1130 (by decide +kernel) rfl
theorem q1132 : (Jvm.Cond.instanceMethod ({ cls := "AliasStreamsModel", name := "refused", desc := "(I)Z" } : Jvm.MethodName)) ∈ zWd := zmem 1132 (by decide +kernel) rfl
theorem q1133 : (Jvm.Cond.code ({ cls := "AliasStreamsModel", name := "refused", desc := "(I)Z" } : Jvm.MethodName) prog_13_method_3_code (2 : Nat) (Option.some Jvm.ClassFile.FieldType.boolean)) ∈ zWd := zmem 1133 (by decide +kernel) rfl
theorem q1134 : (Jvm.Cond.methodLink "AliasStreamsLaw" (116 : Nat) ({ cls := "AliasStreamsModel", name := "clearText", desc := "()I" } : Jvm.MethodName)) ∈ zWd := zmem 1134 (by decide +kernel) rfl
theorem q1135 : (Jvm.Cond.instanceMethod ({ cls := "AliasStreamsModel", name := "clearText", desc := "()I" } : Jvm.MethodName)) ∈ zWd := zmem 1135 (by decide +kernel) rfl
theorem q1136 : (Jvm.Cond.selects "AliasStreamsModel" ({ cls := "AliasStreamsModel", name := "clearText", desc := "()I" } : Jvm.MethodName) ({ cls := "AliasStreamsModel", name := "clearText", desc := "()I" } : Jvm.MethodName)) ∈ zWd := zmem 1136 (by decide +kernel) rfl
theorem q1137 : (Jvm.Cond.code ({ cls := "AliasStreamsModel", name := "clearText", desc := "()I" } : Jvm.MethodName) prog_13_method_17_code (2 : Nat) (Option.some Jvm.ClassFile.FieldType.int)) ∈ zWd := zmem 1137 (by decide +kernel) rfl
theorem q1138 : (Jvm.Cond.methodLink "AliasStreamsLaw" (120 : Nat) ({ cls := "AliasStreamsModel", name := "errorPosition", desc := "()I" } : Jvm.MethodName)) ∈ zWd := zmem 1138 (by decide +kernel) rfl
theorem q1139 : (Jvm.Cond.instanceMethod ({ cls := "AliasStreamsModel", name := "errorPosition", desc := "()I" } : Jvm.MethodName)) ∈ zWd := zmem 1139 (by decide +kernel) rfl
theorem q1140 : (Jvm.Cond.selects "AliasStreamsModel" ({ cls := "AliasStreamsModel", name := "errorPosition", desc := "()I" } : Jvm.MethodName) ({ cls := "AliasStreamsModel", name := "errorPosition", desc := "()I" } : Jvm.MethodName)) ∈ zWd := zmem 1140 (by decide +kernel) rfl
theorem q1141 : (Jvm.Cond.code ({ cls := "AliasStreamsModel", name := "errorPosition", desc := "()I" } : Jvm.MethodName) prog_13_method_23_code (1 : Nat) (Option.some Jvm.ClassFile.FieldType.int)) ∈ zWd := zmem 1141 (by decide +kernel) rfl
theorem q1142 : (Jvm.Cond.methodLink "AliasStreamsModel" (148 : Nat) ({ cls := "AliasStreamsModel", name := "readAll", desc := "()Z" } : Jvm.MethodName)) ∈ zWd := zmem 1142 (by decide +kernel) rfl
theorem q1144 : (Jvm.Cond.instanceMethod ({ cls := "AliasStreamsModel", name := "readAll", desc := "()Z" } : Jvm.MethodName)) ∈ zWd := zmem 1144 (by decide +kernel) rfl
theorem q1145 : (Jvm.Cond.code ({ cls := "AliasStreamsModel", name := "readAll", desc := "()Z" } : Jvm.MethodName) prog_13_method_22_code (2 : Nat) (Option.some Jvm.ClassFile.FieldType.boolean)) ∈ zWd := zmem 1145 (by decide +kernel) rfl
theorem q1146 : (Jvm.Cond.methodLink "AliasStreamsModel" (124 : Nat) ({ cls := "AliasStreamsModel", name := "next", desc := "(I)I" } : Jvm.MethodName)) ∈ zWd := zmem 1146 (by decide +kernel) rfl
theorem q1148 : (Jvm.Cond.instanceMethod ({ cls := "AliasStreamsModel", name := "next", desc := "(I)I" } : Jvm.MethodName)) ∈ zWd := zmem 1148 (by decide +kernel) rfl
theorem q1149 : (Jvm.Cond.code ({ cls := "AliasStreamsModel", name := "next", desc := "(I)I" } : Jvm.MethodName) prog_13_method_18_code (2 : Nat) (Option.some Jvm.ClassFile.FieldType.int)) ∈ zWd := zmem 1149 (by decide +kernel) rfl
theorem q1150 : (Jvm.Cond.methodLink "AliasStreamsModel" (130 : Nat) ({ cls := "AliasStreamsModel", name := "accepts", desc := "(Z)Z" } : Jvm.MethodName)) ∈ zWd := zmem 1150 (by decide +kernel) rfl
theorem q1152 : (Jvm.Cond.instanceMethod ({ cls := "AliasStreamsModel", name := "accepts", desc := "(Z)Z" } : Jvm.MethodName)) ∈ zWd := zmem 1152 (by decide +kernel) rfl
theorem q1153 : (Jvm.Cond.code ({ cls := "AliasStreamsModel", name := "accepts", desc := "(Z)Z" } : Jvm.MethodName) prog_13_method_19_code (2 : Nat) (Option.some Jvm.ClassFile.FieldType.boolean)) ∈ zWd := zmem 1153 (by decide +kernel) rfl
theorem q1154 : (Jvm.Cond.constantLong "AliasStreamsModel" (137 : Nat) (2 : Int64)) ∈ zWd := zmem 1154 (by decide +kernel) rfl
theorem q1155 : (Jvm.Cond.constantLong "AliasStreamsModel" (139 : Nat) (8 : Int64)) ∈ zWd := zmem 1155 (by decide +kernel) rfl
theorem q1156 : (Jvm.Cond.methodLink "AliasStreamsModel" (141 : Nat) ({ cls := "AliasStreamsModel", name := "readCounts", desc := "()Z" } : Jvm.MethodName)) ∈ zWd := zmem 1156 (by decide +kernel) rfl
theorem q1158 : (Jvm.Cond.instanceMethod ({ cls := "AliasStreamsModel", name := "readCounts", desc := "()Z" } : Jvm.MethodName)) ∈ zWd := zmem 1158 (by decide +kernel) rfl
theorem q1159 : (Jvm.Cond.code ({ cls := "AliasStreamsModel", name := "readCounts", desc := "()Z" } : Jvm.MethodName) prog_13_method_20_code (6 : Nat) (Option.some Jvm.ClassFile.FieldType.boolean)) ∈ zWd := zmem 1159 (by decide +kernel) rfl
theorem q1160 : (Jvm.Cond.constantLong "AliasStreamsModel" (128 : Nat) (9 : Int64)) ∈ zWd := zmem 1160 (by decide +kernel) rfl
theorem q1161 : (Jvm.Cond.methodLink "AliasStreamsModel" (145 : Nat) ({ cls := "AliasStreamsModel", name := "readItems", desc := "()Z" } : Jvm.MethodName)) ∈ zWd := zmem 1161 (by decide +kernel) rfl
theorem q1163 : (Jvm.Cond.instanceMethod ({ cls := "AliasStreamsModel", name := "readItems", desc := "()Z" } : Jvm.MethodName)) ∈ zWd := zmem 1163 (by decide +kernel) rfl
theorem q1164 : (Jvm.Cond.code ({ cls := "AliasStreamsModel", name := "readItems", desc := "()Z" } : Jvm.MethodName) prog_13_method_21_code (4 : Nat) (Option.some Jvm.ClassFile.FieldType.boolean)) ∈ zWd := zmem 1164 (by decide +kernel) rfl
theorem q1165 : (Jvm.Cond.methodLink "AliasStreamsLaw" (124 : Nat) ({ cls := "AliasStreamsModel", name := "load", desc := "()I" } : Jvm.MethodName)) ∈ zWd := zmem 1165 (by decide +kernel) rfl
theorem q1166 : (Jvm.Cond.instanceMethod ({ cls := "AliasStreamsModel", name := "load", desc := "()I" } : Jvm.MethodName)) ∈ zWd := zmem 1166 (by decide +kernel) rfl
theorem q1167 : (Jvm.Cond.selects "AliasStreamsModel" ({ cls := "AliasStreamsModel", name := "load", desc := "()I" } : Jvm.MethodName) ({ cls := "AliasStreamsModel", name := "load", desc := "()I" } : Jvm.MethodName)) ∈ zWd := zmem 1167 (by decide +kernel) rfl
theorem q1168 : (Jvm.Cond.code ({ cls := "AliasStreamsModel", name := "load", desc := "()I" } : Jvm.MethodName) prog_13_method_24_code (1 : Nat) (Option.some Jvm.ClassFile.FieldType.int)) ∈ zWd := zmem 1168 (by decide +kernel) rfl
theorem q1169 : (Jvm.Cond.methodLink "AliasStreamsModel" (151 : Nat) ({ cls := "AliasStreamsModel", name := "copyPage", desc := "([II[II)V" } : Jvm.MethodName)) ∈ zWd := zmem 1169 (by decide +kernel) rfl
theorem q1170 : (Jvm.Cond.static ({ cls := "AliasStreamsModel", name := "copyPage", desc := "([II[II)V" } : Jvm.MethodName)) ∈ zWd := zmem 1170 (by decide +kernel) rfl
theorem q1171 : (Jvm.Cond.code ({ cls := "AliasStreamsModel", name := "copyPage", desc := "([II[II)V" } : Jvm.MethodName) prog_13_method_5_code (5 : Nat) (Option.none : Option Jvm.ClassFile.FieldType)) ∈ zWd := zmem 1171 (by decide +kernel) rfl
theorem q1172 : (Jvm.Cond.methodLink "AliasStreamsLaw" (127 : Nat) ({ cls := "AliasStreamsModel", name := "about", desc := "(I)I" } : Jvm.MethodName)) ∈ zWd := zmem 1172 (by decide +kernel) rfl
theorem q1173 : (Jvm.Cond.instanceMethod ({ cls := "AliasStreamsModel", name := "about", desc := "(I)I" } : Jvm.MethodName)) ∈ zWd := zmem 1173 (by decide +kernel) rfl
theorem q1174 : (Jvm.Cond.selects "AliasStreamsModel" ({ cls := "AliasStreamsModel", name := "about", desc := "(I)I" } : Jvm.MethodName) ({ cls := "AliasStreamsModel", name := "about", desc := "(I)I" } : Jvm.MethodName)) ∈ zWd := zmem 1174 (by decide +kernel) rfl
theorem q1175 : (Jvm.Cond.code ({ cls := "AliasStreamsModel", name := "about", desc := "(I)I" } : Jvm.MethodName) prog_13_method_25_code (2 : Nat) (Option.some Jvm.ClassFile.FieldType.int)) ∈ zWd := zmem 1175 (by decide +kernel) rfl
theorem q1176 : (Jvm.Cond.constantLong "AliasStreamsModel" (158 : Nat) (6 : Int64)) ∈ zWd := zmem 1176 (by decide +kernel) rfl
theorem q1177 : (Jvm.Cond.methodLink "AliasStreamsModel" (160 : Nat) ({ cls := "AliasStreamsModel", name := "layMessage", desc := "([I)V" } : Jvm.MethodName)) ∈ zWd := zmem 1177 (by decide +kernel) rfl
theorem q1179 : (Jvm.Cond.instanceMethod ({ cls := "AliasStreamsModel", name := "layMessage", desc := "([I)V" } : Jvm.MethodName)) ∈ zWd := zmem 1179 (by decide +kernel) rfl
theorem q1180 : (Jvm.Cond.code ({ cls := "AliasStreamsModel", name := "layMessage", desc := "([I)V" } : Jvm.MethodName) prog_13_method_11_code (5 : Nat) (Option.none : Option Jvm.ClassFile.FieldType)) ∈ zWd := zmem 1180 (by decide +kernel) rfl
theorem q1181 : (Jvm.Cond.methodLink "AliasStreamsModel" (164 : Nat) ({ cls := "AliasStreamsModel", name := "layTables", desc := "([I)V" } : Jvm.MethodName)) ∈ zWd := zmem 1181 (by decide +kernel) rfl
theorem q1183 : (Jvm.Cond.instanceMethod ({ cls := "AliasStreamsModel", name := "layTables", desc := "([I)V" } : Jvm.MethodName)) ∈ zWd := zmem 1183 (by decide +kernel) rfl
theorem q1184 : (Jvm.Cond.code ({ cls := "AliasStreamsModel", name := "layTables", desc := "([I)V" } : Jvm.MethodName) prog_13_method_10_code (3 : Nat) (Option.none : Option Jvm.ClassFile.FieldType)) ∈ zWd := zmem 1184 (by decide +kernel) rfl
theorem q1185 : (Jvm.Cond.methodLink "AliasStreamsModel" (91 : Nat) ({ cls := "AliasStreamsModel", name := "layFrequencies", desc := "([II)V" } : Jvm.MethodName)) ∈ zWd := zmem 1185 (by decide +kernel) rfl
theorem q1187 : (Jvm.Cond.instanceMethod ({ cls := "AliasStreamsModel", name := "layFrequencies", desc := "([II)V" } : Jvm.MethodName)) ∈ zWd := zmem 1187 (by decide +kernel) rfl
theorem q1188 : (Jvm.Cond.code ({ cls := "AliasStreamsModel", name := "layFrequencies", desc := "([II)V" } : Jvm.MethodName) prog_13_method_8_code (9 : Nat) (Option.none : Option Jvm.ClassFile.FieldType)) ∈ zWd := zmem 1188 (by decide +kernel) rfl
theorem q1189 : (Jvm.Cond.methodLink "AliasStreamsModel" (95 : Nat) ({ cls := "AliasStreamsModel", name := "laySlots", desc := "(I)V" } : Jvm.MethodName)) ∈ zWd := zmem 1189 (by decide +kernel) rfl
theorem q1191 : (Jvm.Cond.instanceMethod ({ cls := "AliasStreamsModel", name := "laySlots", desc := "(I)V" } : Jvm.MethodName)) ∈ zWd := zmem 1191 (by decide +kernel) rfl
theorem q1192 : (Jvm.Cond.code ({ cls := "AliasStreamsModel", name := "laySlots", desc := "(I)V" } : Jvm.MethodName) prog_13_method_9_code (7 : Nat) (Option.none : Option Jvm.ClassFile.FieldType)) ∈ zWd := zmem 1192 (by decide +kernel) rfl
theorem q1193 : (Jvm.Cond.methodLink "AliasStreamsModel" (105 : Nat) ({ cls := "AliasStreamsModel", name := "take", desc := "([I)Z" } : Jvm.MethodName)) ∈ zWd := zmem 1193 (by decide +kernel) rfl
theorem q1195 : (Jvm.Cond.instanceMethod ({ cls := "AliasStreamsModel", name := "take", desc := "([I)Z" } : Jvm.MethodName)) ∈ zWd := zmem 1195 (by decide +kernel) rfl
theorem q1196 : (Jvm.Cond.code ({ cls := "AliasStreamsModel", name := "take", desc := "([I)Z" } : Jvm.MethodName) prog_13_method_14_code (10 : Nat) (Option.some Jvm.ClassFile.FieldType.boolean)) ∈ zWd := zmem 1196 (by decide +kernel) rfl
theorem q1197 : (Jvm.Cond.methodLink "AliasStreamsLaw" (131 : Nat) ({ cls := "AliasStreamsModel", name := "symbol", desc := "(III)I" } : Jvm.MethodName)) ∈ zWd := zmem 1197 (by decide +kernel) rfl
theorem q1198 : (Jvm.Cond.instanceMethod ({ cls := "AliasStreamsModel", name := "symbol", desc := "(III)I" } : Jvm.MethodName)) ∈ zWd := zmem 1198 (by decide +kernel) rfl
theorem q1199 : (Jvm.Cond.selects "AliasStreamsModel" ({ cls := "AliasStreamsModel", name := "symbol", desc := "(III)I" } : Jvm.MethodName) ({ cls := "AliasStreamsModel", name := "symbol", desc := "(III)I" } : Jvm.MethodName)) ∈ zWd := zmem 1199 (by decide +kernel) rfl
theorem q1200 : (Jvm.Cond.code ({ cls := "AliasStreamsModel", name := "symbol", desc := "(III)I" } : Jvm.MethodName) prog_13_method_26_code (4 : Nat) (Option.some Jvm.ClassFile.FieldType.int)) ∈ zWd := zmem 1200 (by decide +kernel) rfl
theorem q1201 : (Jvm.Cond.methodLink "AliasStreamsModel" (167 : Nat) ({ cls := "AliasStreamsModel", name := "isModel", desc := "(I)Z" } : Jvm.MethodName)) ∈ zWd := zmem 1201 (by decide +kernel) rfl
theorem q1203 : (Jvm.Cond.instanceMethod ({ cls := "AliasStreamsModel", name := "isModel", desc := "(I)Z" } : Jvm.MethodName)) ∈ zWd := zmem 1203 (by decide +kernel) rfl
theorem q1204 : (Jvm.Cond.code ({ cls := "AliasStreamsModel", name := "isModel", desc := "(I)Z" } : Jvm.MethodName) prog_13_method_6_code (2 : Nat) (Option.some Jvm.ClassFile.FieldType.boolean)) ∈ zWd := zmem 1204 (by decide +kernel) rfl
theorem q1205 : (Jvm.Cond.methodLink "AliasStreamsModel" (170 : Nat) ({ cls := "AliasStreamsModel", name := "isSymbol", desc := "(I)Z" } : Jvm.MethodName)) ∈ zWd := zmem 1205 (by decide +kernel) rfl
theorem q1207 : (Jvm.Cond.instanceMethod ({ cls := "AliasStreamsModel", name := "isSymbol", desc := "(I)Z" } : Jvm.MethodName)) ∈ zWd := zmem 1207 (by decide +kernel) rfl
theorem q1208 : (Jvm.Cond.code ({ cls := "AliasStreamsModel", name := "isSymbol", desc := "(I)Z" } : Jvm.MethodName) prog_13_method_7_code (2 : Nat) (Option.some Jvm.ClassFile.FieldType.boolean)) ∈ zWd := zmem 1208 (by decide +kernel) rfl
theorem q1209 : (Jvm.Cond.methodLink "AliasStreamsLaw" (134 : Nat) ({ cls := "AliasStreamsModel", name := "bucket", desc := "(III)I" } : Jvm.MethodName)) ∈ zWd := zmem 1209 (by decide +kernel) rfl
theorem q1210 : (Jvm.Cond.instanceMethod ({ cls := "AliasStreamsModel", name := "bucket", desc := "(III)I" } : Jvm.MethodName)) ∈ zWd := zmem 1210 (by decide +kernel) rfl
theorem q1211 : (Jvm.Cond.selects "AliasStreamsModel" ({ cls := "AliasStreamsModel", name := "bucket", desc := "(III)I" } : Jvm.MethodName) ({ cls := "AliasStreamsModel", name := "bucket", desc := "(III)I" } : Jvm.MethodName)) ∈ zWd := zmem 1211 (by decide +kernel) rfl
theorem q1212 : (Jvm.Cond.code ({ cls := "AliasStreamsModel", name := "bucket", desc := "(III)I" } : Jvm.MethodName) prog_13_method_27_code (4 : Nat) (Option.some Jvm.ClassFile.FieldType.int)) ∈ zWd := zmem 1212 (by decide +kernel) rfl
theorem q1213 : (Jvm.Cond.constantLong "AliasStreamsModel" (173 : Nat) (7 : Int64)) ∈ zWd := zmem 1213 (by decide +kernel) rfl
theorem q1214 : (Jvm.Cond.methodLink "AliasStreamsLaw" (137 : Nat) ({ cls := "AliasStreamsModel", name := "slot", desc := "(III)I" } : Jvm.MethodName)) ∈ zWd := zmem 1214 (by decide +kernel) rfl
theorem q1215 : (Jvm.Cond.instanceMethod ({ cls := "AliasStreamsModel", name := "slot", desc := "(III)I" } : Jvm.MethodName)) ∈ zWd := zmem 1215 (by decide +kernel) rfl
theorem q1216 : (Jvm.Cond.selects "AliasStreamsModel" ({ cls := "AliasStreamsModel", name := "slot", desc := "(III)I" } : Jvm.MethodName) ({ cls := "AliasStreamsModel", name := "slot", desc := "(III)I" } : Jvm.MethodName)) ∈ zWd := zmem 1216 (by decide +kernel) rfl
theorem q1217 : (Jvm.Cond.code ({ cls := "AliasStreamsModel", name := "slot", desc := "(III)I" } : Jvm.MethodName) prog_13_method_28_code (4 : Nat) (Option.some Jvm.ClassFile.FieldType.int)) ∈ zWd := zmem 1217 (by decide +kernel) rfl
theorem q1218 : (Jvm.Cond.constantLong "AliasStreamsModel" (175 : Nat) (31 : Int64)) ∈ zWd := zmem 1218 (by decide +kernel) rfl
theorem q1219 : (Jvm.Cond.methodLink "AliasStreamsLaw" (140 : Nat) ({ cls := "AliasStreamsModel", name := "item", desc := "(I)I" } : Jvm.MethodName)) ∈ zWd := zmem 1219 (by decide +kernel) rfl
theorem q1220 : (Jvm.Cond.instanceMethod ({ cls := "AliasStreamsModel", name := "item", desc := "(I)I" } : Jvm.MethodName)) ∈ zWd := zmem 1220 (by decide +kernel) rfl
theorem q1221 : (Jvm.Cond.selects "AliasStreamsModel" ({ cls := "AliasStreamsModel", name := "item", desc := "(I)I" } : Jvm.MethodName) ({ cls := "AliasStreamsModel", name := "item", desc := "(I)I" } : Jvm.MethodName)) ∈ zWd := zmem 1221 (by decide +kernel) rfl
theorem q1222 : (Jvm.Cond.code ({ cls := "AliasStreamsModel", name := "item", desc := "(I)I" } : Jvm.MethodName) prog_13_method_30_code (2 : Nat) (Option.some Jvm.ClassFile.FieldType.int)) ∈ zWd := zmem 1222 (by decide +kernel) rfl
theorem q1223 : (Jvm.Cond.methodLink "AliasStreamsModel" (177 : Nat) ({ cls := "AliasStreamsModel", name := "isItem", desc := "(I)Z" } : Jvm.MethodName)) ∈ zWd := zmem 1223 (by decide +kernel) rfl
theorem q1225 : (Jvm.Cond.instanceMethod ({ cls := "AliasStreamsModel", name := "isItem", desc := "(I)Z" } : Jvm.MethodName)) ∈ zWd := zmem 1225 (by decide +kernel) rfl
theorem q1226 : (Jvm.Cond.code ({ cls := "AliasStreamsModel", name := "isItem", desc := "(I)Z" } : Jvm.MethodName) prog_13_method_29_code (2 : Nat) (Option.some Jvm.ClassFile.FieldType.boolean)) ∈ zWd := zmem 1226 (by decide +kernel) rfl
theorem q1227 : (Jvm.Cond.methodLink "AliasStreamsLaw" (144 : Nat) ({ cls := "AliasStreamsModel", name := "tape", desc := "(II)I" } : Jvm.MethodName)) ∈ zWd := zmem 1227 (by decide +kernel) rfl
theorem q1228 : (Jvm.Cond.instanceMethod ({ cls := "AliasStreamsModel", name := "tape", desc := "(II)I" } : Jvm.MethodName)) ∈ zWd := zmem 1228 (by decide +kernel) rfl
theorem q1229 : (Jvm.Cond.selects "AliasStreamsModel" ({ cls := "AliasStreamsModel", name := "tape", desc := "(II)I" } : Jvm.MethodName) ({ cls := "AliasStreamsModel", name := "tape", desc := "(II)I" } : Jvm.MethodName)) ∈ zWd := zmem 1229 (by decide +kernel) rfl
theorem q1230 : (Jvm.Cond.code ({ cls := "AliasStreamsModel", name := "tape", desc := "(II)I" } : Jvm.MethodName) prog_13_method_31_code (4 : Nat) (Option.some Jvm.ClassFile.FieldType.int)) ∈ zWd := zmem 1230 (by decide +kernel) rfl
theorem q1231 : (Jvm.Cond.methodLink "AliasStreamsLaw" (147 : Nat) ({ cls := "AliasStreamsModel", name := "setCount", desc := "(III)I" } : Jvm.MethodName)) ∈ zWd := zmem 1231 (by decide +kernel) rfl
theorem q1232 : (Jvm.Cond.instanceMethod ({ cls := "AliasStreamsModel", name := "setCount", desc := "(III)I" } : Jvm.MethodName)) ∈ zWd := zmem 1232 (by decide +kernel) rfl
theorem q1233 : (Jvm.Cond.selects "AliasStreamsModel" ({ cls := "AliasStreamsModel", name := "setCount", desc := "(III)I" } : Jvm.MethodName) ({ cls := "AliasStreamsModel", name := "setCount", desc := "(III)I" } : Jvm.MethodName)) ∈ zWd := zmem 1233 (by decide +kernel) rfl
theorem q1234 : (Jvm.Cond.code ({ cls := "AliasStreamsModel", name := "setCount", desc := "(III)I" } : Jvm.MethodName) prog_13_method_33_code (7 : Nat) (Option.some Jvm.ClassFile.FieldType.int)) ∈ zWd := zmem 1234 (by decide +kernel) rfl
theorem q1235 : (Jvm.Cond.constantLong "AliasStreamsModel" (180 : Nat) (99 : Int64)) ∈ zWd := zmem 1235 (by decide +kernel) rfl
theorem q1236 : (Jvm.Cond.methodLink "AliasStreamsModel" (182 : Nat) ({ cls := "AliasStreamsModel", name := "note", desc := "()V" } : Jvm.MethodName)) ∈ zWd := zmem 1236 (by decide +kernel) rfl
theorem q1238 : (Jvm.Cond.instanceMethod ({ cls := "AliasStreamsModel", name := "note", desc := "()V" } : Jvm.MethodName)) ∈ zWd := zmem 1238 (by decide +kernel) rfl
theorem q1239 : (Jvm.Cond.code ({ cls := "AliasStreamsModel", name := "note", desc := "()V" } : Jvm.MethodName) prog_13_method_32_code (2 : Nat) (Option.none : Option Jvm.ClassFile.FieldType)) ∈ zWd := zmem 1239 (by decide +kernel) rfl
theorem q1240 : (Jvm.Cond.methodLink "AliasStreamsLaw" (150 : Nat) ({ cls := "AliasStreamsModel", name := "insert", desc := "(II)I" } : Jvm.MethodName)) ∈ zWd := zmem 1240 (by decide +kernel) rfl
theorem q1241 : (Jvm.Cond.instanceMethod ({ cls := "AliasStreamsModel", name := "insert", desc := "(II)I" } : Jvm.MethodName)) ∈ zWd := zmem 1241 (by decide +kernel) rfl
theorem q1242 : (Jvm.Cond.selects "AliasStreamsModel" ({ cls := "AliasStreamsModel", name := "insert", desc := "(II)I" } : Jvm.MethodName) ({ cls := "AliasStreamsModel", name := "insert", desc := "(II)I" } : Jvm.MethodName)) ∈ zWd := zmem 1242 (by decide +kernel) rfl
theorem q1243 : (Jvm.Cond.code ({ cls := "AliasStreamsModel", name := "insert", desc := "(II)I" } : Jvm.MethodName) prog_13_method_37_code (3 : Nat) (Option.some Jvm.ClassFile.FieldType.int)) ∈ zWd := zmem 1243 (by decide +kernel) rfl
theorem q1244 : (Jvm.Cond.methodLink "AliasStreamsModel" (185 : Nat) ({ cls := "AliasStreamsModel", name := "isThing", desc := "(I)Z" } : Jvm.MethodName)) ∈ zWd := zmem 1244 (by decide +kernel) rfl
theorem q1246 : (Jvm.Cond.instanceMethod ({ cls := "AliasStreamsModel", name := "isThing", desc := "(I)Z" } : Jvm.MethodName)) ∈ zWd := zmem 1246 (by decide +kernel) rfl
theorem q1247 : (Jvm.Cond.code ({ cls := "AliasStreamsModel", name := "isThing", desc := "(I)Z" } : Jvm.MethodName) prog_13_method_34_code (2 : Nat) (Option.some Jvm.ClassFile.FieldType.boolean)) ∈ zWd := zmem 1247 (by decide +kernel) rfl
theorem q1248 : (Jvm.Cond.methodLink "AliasStreamsModel" (188 : Nat) ({ cls := "AliasStreamsModel", name := "put", desc := "([III)V" } : Jvm.MethodName)) ∈ zWd := zmem 1248 (by decide +kernel) rfl
theorem q1249 : (Jvm.Cond.static ({ cls := "AliasStreamsModel", name := "put", desc := "([III)V" } : Jvm.MethodName)) ∈ zWd := zmem 1249 (by decide +kernel) rfl
theorem q1250 : (Jvm.Cond.code ({ cls := "AliasStreamsModel", name := "put", desc := "([III)V" } : Jvm.MethodName) prog_13_method_35_code (4 : Nat) (Option.none : Option Jvm.ClassFile.FieldType)) ∈ zWd := zmem 1250 (by decide +kernel) rfl
theorem q1251 : (Jvm.Cond.methodLink "AliasStreamsLaw" (153 : Nat) ({ cls := "AliasStreamsModel", name := "remove", desc := "(I)I" } : Jvm.MethodName)) ∈ zWd := zmem 1251 (by decide +kernel) rfl
theorem q1252 : (Jvm.Cond.instanceMethod ({ cls := "AliasStreamsModel", name := "remove", desc := "(I)I" } : Jvm.MethodName)) ∈ zWd := zmem 1252 (by decide +kernel) rfl
theorem q1253 : (Jvm.Cond.selects "AliasStreamsModel" ({ cls := "AliasStreamsModel", name := "remove", desc := "(I)I" } : Jvm.MethodName) ({ cls := "AliasStreamsModel", name := "remove", desc := "(I)I" } : Jvm.MethodName)) ∈ zWd := zmem 1253 (by decide +kernel) rfl
theorem q1254 : (Jvm.Cond.code ({ cls := "AliasStreamsModel", name := "remove", desc := "(I)I" } : Jvm.MethodName) prog_13_method_38_code (2 : Nat) (Option.some Jvm.ClassFile.FieldType.int)) ∈ zWd := zmem 1254 (by decide +kernel) rfl
theorem q1255 : (Jvm.Cond.methodLink "AliasStreamsModel" (192 : Nat) ({ cls := "AliasStreamsModel", name := "drop", desc := "([II)I" } : Jvm.MethodName)) ∈ zWd := zmem 1255 (by decide +kernel) rfl
theorem q1256 : (Jvm.Cond.static ({ cls := "AliasStreamsModel", name := "drop", desc := "([II)I" } : Jvm.MethodName)) ∈ zWd := zmem 1256 (by decide +kernel) rfl
theorem q1257 : (Jvm.Cond.code ({ cls := "AliasStreamsModel", name := "drop", desc := "([II)I" } : Jvm.MethodName) prog_13_method_36_code (4 : Nat) (Option.some Jvm.ClassFile.FieldType.int)) ∈ zWd := zmem 1257 (by decide +kernel) rfl
theorem q1258 : (Jvm.Cond.methodLink "AliasStreamsLaw" (156 : Nat) ({ cls := "AliasStreamsModel", name := "encode", desc := "()I" } : Jvm.MethodName)) ∈ zWd := zmem 1258 (by decide +kernel) rfl
theorem q1259 : (Jvm.Cond.instanceMethod ({ cls := "AliasStreamsModel", name := "encode", desc := "()I" } : Jvm.MethodName)) ∈ zWd := zmem 1259 (by decide +kernel) rfl
theorem q1260 : (Jvm.Cond.selects "AliasStreamsModel" ({ cls := "AliasStreamsModel", name := "encode", desc := "()I" } : Jvm.MethodName) ({ cls := "AliasStreamsModel", name := "encode", desc := "()I" } : Jvm.MethodName)) ∈ zWd := zmem 1260 (by decide +kernel) rfl
theorem q1261 : (Jvm.Cond.code ({ cls := "AliasStreamsModel", name := "encode", desc := "()I" } : Jvm.MethodName) prog_13_method_40_code (1 : Nat) (Option.some Jvm.ClassFile.FieldType.int)) ∈ zWd := zmem 1261 (by decide +kernel) rfl
theorem q1262 : (Jvm.Cond.methodLink "AliasStreamsModel" (200 : Nat) ({ cls := "AliasStreamsModel", name := "canEncode", desc := "([I)Z" } : Jvm.MethodName)) ∈ zWd := zmem 1262 (by decide +kernel) rfl
theorem q1264 : (Jvm.Cond.instanceMethod ({ cls := "AliasStreamsModel", name := "canEncode", desc := "([I)Z" } : Jvm.MethodName)) ∈ zWd := zmem 1264 (by decide +kernel) rfl
theorem q1265 : (Jvm.Cond.code ({ cls := "AliasStreamsModel", name := "canEncode", desc := "([I)Z" } : Jvm.MethodName) prog_13_method_39_code (2 : Nat) (Option.some Jvm.ClassFile.FieldType.boolean)) ∈ zWd := zmem 1265 (by decide +kernel) rfl
theorem q1266 : (Jvm.Cond.methodLink "AliasStreamsModel" (196 : Nat) ({ cls := "AliasStreamsModel", name := "unfitOf", desc := "()I" } : Jvm.MethodName)) ∈ zWd := zmem 1266 (by decide +kernel) rfl
theorem q1268 : (Jvm.Cond.instanceMethod ({ cls := "AliasStreamsModel", name := "unfitOf", desc := "()I" } : Jvm.MethodName)) ∈ zWd := zmem 1268 (by decide +kernel) rfl
theorem q1269 : (Jvm.Cond.code ({ cls := "AliasStreamsModel", name := "unfitOf", desc := "()I" } : Jvm.MethodName) prog_13_method_12_code (2 : Nat) (Option.some Jvm.ClassFile.FieldType.int)) ∈ zWd := zmem 1269 (by decide +kernel) rfl
theorem q1270 : (Jvm.Cond.methodLink "AliasStreamsModel" (203 : Nat) ({ cls := "AliasStreamsModel", name := "encodeTo", desc := "([I)V" } : Jvm.MethodName)) ∈ zWd := zmem 1270 (by decide +kernel) rfl
theorem q1272 : (Jvm.Cond.instanceMethod ({ cls := "AliasStreamsModel", name := "encodeTo", desc := "([I)V" } : Jvm.MethodName)) ∈ zWd := zmem 1272 (by decide +kernel) rfl
theorem q1273 : (Jvm.Cond.code ({ cls := "AliasStreamsModel", name := "encodeTo", desc := "([I)V" } : Jvm.MethodName) prog_13_method_13_code (7 : Nat) (Option.none : Option Jvm.ClassFile.FieldType)) ∈ zWd := zmem 1273 (by decide +kernel) rfl
theorem q1274 : (Jvm.Cond.methodLink "AliasStreamsLaw" (159 : Nat) ({ cls := "AliasStreamsModel", name := "decode", desc := "()I" } : Jvm.MethodName)) ∈ zWd := zmem 1274 (by decide +kernel) rfl
theorem q1275 : (Jvm.Cond.instanceMethod ({ cls := "AliasStreamsModel", name := "decode", desc := "()I" } : Jvm.MethodName)) ∈ zWd := zmem 1275 (by decide +kernel) rfl
theorem q1276 : (Jvm.Cond.selects "AliasStreamsModel" ({ cls := "AliasStreamsModel", name := "decode", desc := "()I" } : Jvm.MethodName) ({ cls := "AliasStreamsModel", name := "decode", desc := "()I" } : Jvm.MethodName)) ∈ zWd := zmem 1276 (by decide +kernel) rfl
theorem q1277 : (Jvm.Cond.code ({ cls := "AliasStreamsModel", name := "decode", desc := "()I" } : Jvm.MethodName) prog_13_method_44_code (1 : Nat) (Option.some Jvm.ClassFile.FieldType.int)) ∈ zWd := zmem 1277 (by decide +kernel) rfl
theorem q1278 : (Jvm.Cond.methodLink "AliasStreamsModel" (213 : Nat) ({ cls := "AliasStreamsModel", name := "canDecode", desc := "([I)Z" } : Jvm.MethodName)) ∈ zWd := zmem 1278 (by decide +kernel) rfl
theorem q1280 : (Jvm.Cond.instanceMethod ({ cls := "AliasStreamsModel", name := "canDecode", desc := "([I)Z" } : Jvm.MethodName)) ∈ zWd := zmem 1280 (by decide +kernel) rfl
theorem q1281 : (Jvm.Cond.code ({ cls := "AliasStreamsModel", name := "canDecode", desc := "([I)Z" } : Jvm.MethodName) prog_13_method_42_code (2 : Nat) (Option.some Jvm.ClassFile.FieldType.boolean)) ∈ zWd := zmem 1281 (by decide +kernel) rfl
theorem q1282 : (Jvm.Cond.methodLink "AliasStreamsModel" (206 : Nat) ({ cls := "AliasStreamsModel", name := "fails", desc := "([I)Z" } : Jvm.MethodName)) ∈ zWd := zmem 1282 (by decide +kernel) rfl
theorem q1284 : (Jvm.Cond.instanceMethod ({ cls := "AliasStreamsModel", name := "fails", desc := "([I)Z" } : Jvm.MethodName)) ∈ zWd := zmem 1284 (by decide +kernel) rfl
theorem q1285 : (Jvm.Cond.code ({ cls := "AliasStreamsModel", name := "fails", desc := "([I)Z" } : Jvm.MethodName) prog_13_method_15_code (2 : Nat) (Option.some Jvm.ClassFile.FieldType.boolean)) ∈ zWd := zmem 1285 (by decide +kernel) rfl
theorem q1286 : (Jvm.Cond.methodLink "AliasStreamsModel" (209 : Nat) ({ cls := "AliasStreamsModel", name := "itemsOf", desc := "([I)I" } : Jvm.MethodName)) ∈ zWd := zmem 1286 (by decide +kernel) rfl
theorem q1288 : (Jvm.Cond.instanceMethod ({ cls := "AliasStreamsModel", name := "itemsOf", desc := "([I)I" } : Jvm.MethodName)) ∈ zWd := zmem 1288 (by decide +kernel) rfl
theorem q1289 : (Jvm.Cond.code ({ cls := "AliasStreamsModel", name := "itemsOf", desc := "([I)I" } : Jvm.MethodName) prog_13_method_41_code (4 : Nat) (Option.some Jvm.ClassFile.FieldType.int)) ∈ zWd := zmem 1289 (by decide +kernel) rfl
theorem q1290 : (Jvm.Cond.methodLink "AliasStreamsModel" (216 : Nat) ({ cls := "AliasStreamsModel", name := "decodeTo", desc := "([I)V" } : Jvm.MethodName)) ∈ zWd := zmem 1290 (by decide +kernel) rfl
theorem q1292 : (Jvm.Cond.instanceMethod ({ cls := "AliasStreamsModel", name := "decodeTo", desc := "([I)V" } : Jvm.MethodName)) ∈ zWd := zmem 1292 (by decide +kernel) rfl
theorem q1293 : (Jvm.Cond.code ({ cls := "AliasStreamsModel", name := "decodeTo", desc := "([I)V" } : Jvm.MethodName) prog_13_method_43_code (4 : Nat) (Option.none : Option Jvm.ClassFile.FieldType)) ∈ zWd := zmem 1293 (by decide +kernel) rfl
theorem q1294 : (Jvm.Cond.methodLink "AliasStreamsLaw" (162 : Nat) ({ cls := "AliasStreamsModel", name := "setDigit", desc := "(II)I" } : Jvm.MethodName)) ∈ zWd := zmem 1294 (by decide +kernel) rfl
theorem q1295 : (Jvm.Cond.instanceMethod ({ cls := "AliasStreamsModel", name := "setDigit", desc := "(II)I" } : Jvm.MethodName)) ∈ zWd := zmem 1295 (by decide +kernel) rfl
theorem q1296 : (Jvm.Cond.selects "AliasStreamsModel" ({ cls := "AliasStreamsModel", name := "setDigit", desc := "(II)I" } : Jvm.MethodName) ({ cls := "AliasStreamsModel", name := "setDigit", desc := "(II)I" } : Jvm.MethodName)) ∈ zWd := zmem 1296 (by decide +kernel) rfl
theorem q1297 : (Jvm.Cond.code ({ cls := "AliasStreamsModel", name := "setDigit", desc := "(II)I" } : Jvm.MethodName) prog_13_method_46_code (4 : Nat) (Option.some Jvm.ClassFile.FieldType.int)) ∈ zWd := zmem 1297 (by decide +kernel) rfl
theorem q1298 : (Jvm.Cond.methodLink "AliasStreamsModel" (219 : Nat) ({ cls := "AliasStreamsModel", name := "isDigit", desc := "(I)Z" } : Jvm.MethodName)) ∈ zWd := zmem 1298 (by decide +kernel) rfl
theorem q1300 : (Jvm.Cond.instanceMethod ({ cls := "AliasStreamsModel", name := "isDigit", desc := "(I)Z" } : Jvm.MethodName)) ∈ zWd := zmem 1300 (by decide +kernel) rfl
theorem q1301 : (Jvm.Cond.code ({ cls := "AliasStreamsModel", name := "isDigit", desc := "(I)Z" } : Jvm.MethodName) prog_13_method_45_code (2 : Nat) (Option.some Jvm.ClassFile.FieldType.boolean)) ∈ zWd := zmem 1301 (by decide +kernel) rfl
theorem q1302 : (Jvm.Cond.constantLong "AliasStreamsModel" (222 : Nat) (15 : Int64)) ∈ zWd := zmem 1302 (by decide +kernel) rfl
theorem q1303 : (Jvm.Cond.methodLink "AliasStreamsLaw" (165 : Nat) ({ cls := "AliasStreamsModel", name := "setHead", desc := "(II)I" } : Jvm.MethodName)) ∈ zWd := zmem 1303 (by decide +kernel) rfl
theorem q1304 : (Jvm.Cond.instanceMethod ({ cls := "AliasStreamsModel", name := "setHead", desc := "(II)I" } : Jvm.MethodName)) ∈ zWd := zmem 1304 (by decide +kernel) rfl
theorem q1305 : (Jvm.Cond.selects "AliasStreamsModel" ({ cls := "AliasStreamsModel", name := "setHead", desc := "(II)I" } : Jvm.MethodName) ({ cls := "AliasStreamsModel", name := "setHead", desc := "(II)I" } : Jvm.MethodName)) ∈ zWd := zmem 1305 (by decide +kernel) rfl
theorem q1306 : (Jvm.Cond.code ({ cls := "AliasStreamsModel", name := "setHead", desc := "(II)I" } : Jvm.MethodName) prog_13_method_47_code (4 : Nat) (Option.some Jvm.ClassFile.FieldType.int)) ∈ zWd := zmem 1306 (by decide +kernel) rfl
theorem q1307 : (Jvm.Cond.constantLong "AliasStreamsModel" (224 : Nat) (512 : Int64)) ∈ zWd := zmem 1307 (by decide +kernel) rfl
theorem q1308 : (Jvm.Cond.constantLong "AliasStreamsModel" (226 : Nat) (8191 : Int64)) ∈ zWd := zmem 1308 (by decide +kernel) rfl
theorem q1309 : (Jvm.Cond.methodLink "AliasStreamsLaw" (168 : Nat) ({ cls := "AliasStreamsModel", name := "setPlan", desc := "(II)I" } : Jvm.MethodName)) ∈ zWd := zmem 1309 (by decide +kernel) rfl
theorem q1310 : (Jvm.Cond.instanceMethod ({ cls := "AliasStreamsModel", name := "setPlan", desc := "(II)I" } : Jvm.MethodName)) ∈ zWd := zmem 1310 (by decide +kernel) rfl
theorem q1311 : (Jvm.Cond.selects "AliasStreamsModel" ({ cls := "AliasStreamsModel", name := "setPlan", desc := "(II)I" } : Jvm.MethodName) ({ cls := "AliasStreamsModel", name := "setPlan", desc := "(II)I" } : Jvm.MethodName)) ∈ zWd := zmem 1311 (by decide +kernel) rfl
theorem q1312 : (Jvm.Cond.code ({ cls := "AliasStreamsModel", name := "setPlan", desc := "(II)I" } : Jvm.MethodName) prog_13_method_49_code (4 : Nat) (Option.some Jvm.ClassFile.FieldType.int)) ∈ zWd := zmem 1312 (by decide +kernel) rfl
theorem q1313 : (Jvm.Cond.methodLink "AliasStreamsModel" (228 : Nat) ({ cls := "AliasStreamsModel", name := "isPlanned", desc := "(I)Z" } : Jvm.MethodName)) ∈ zWd := zmem 1313 (by decide +kernel) rfl
theorem q1315 : (Jvm.Cond.instanceMethod ({ cls := "AliasStreamsModel", name := "isPlanned", desc := "(I)Z" } : Jvm.MethodName)) ∈ zWd := zmem 1315 (by decide +kernel) rfl
theorem q1316 : (Jvm.Cond.code ({ cls := "AliasStreamsModel", name := "isPlanned", desc := "(I)Z" } : Jvm.MethodName) prog_13_method_48_code (2 : Nat) (Option.some Jvm.ClassFile.FieldType.boolean)) ∈ zWd := zmem 1316 (by decide +kernel) rfl
theorem q1317 : (Jvm.Cond.methodLink "AliasStreamsLaw" (171 : Nat) ({ cls := "AliasStreamsModel", name := "undo", desc := "()I" } : Jvm.MethodName)) ∈ zWd := zmem 1317 (by decide +kernel) rfl
theorem q1318 : (Jvm.Cond.instanceMethod ({ cls := "AliasStreamsModel", name := "undo", desc := "()I" } : Jvm.MethodName)) ∈ zWd := zmem 1318 (by decide +kernel) rfl
theorem q1319 : (Jvm.Cond.selects "AliasStreamsModel" ({ cls := "AliasStreamsModel", name := "undo", desc := "()I" } : Jvm.MethodName) ({ cls := "AliasStreamsModel", name := "undo", desc := "()I" } : Jvm.MethodName)) ∈ zWd := zmem 1319 (by decide +kernel) rfl
theorem q1320 : (Jvm.Cond.code ({ cls := "AliasStreamsModel", name := "undo", desc := "()I" } : Jvm.MethodName) prog_13_method_50_code (1 : Nat) (Option.some Jvm.ClassFile.FieldType.int)) ∈ zWd := zmem 1320 (by decide +kernel) rfl
theorem q1321 : (Jvm.Cond.methodLink "AliasStreamsLaw" (174 : Nat) ({ cls := "AliasStreamsModel", name := "taken", desc := "(II)I" } : Jvm.MethodName)) ∈ zWd := zmem 1321 (by decide +kernel) rfl
theorem q1322 : (Jvm.Cond.instanceMethod ({ cls := "AliasStreamsModel", name := "taken", desc := "(II)I" } : Jvm.MethodName)) ∈ zWd := zmem 1322 (by decide +kernel) rfl
theorem q1323 : (Jvm.Cond.selects "AliasStreamsModel" ({ cls := "AliasStreamsModel", name := "taken", desc := "(II)I" } : Jvm.MethodName) ({ cls := "AliasStreamsModel", name := "taken", desc := "(II)I" } : Jvm.MethodName)) ∈ zWd := zmem 1323 (by decide +kernel) rfl
theorem q1324 : (Jvm.Cond.code ({ cls := "AliasStreamsModel", name := "taken", desc := "(II)I" } : Jvm.MethodName) prog_13_method_51_code (4 : Nat) (Option.some Jvm.ClassFile.FieldType.int)) ∈ zWd := zmem 1324 (by decide +kernel) rfl
theorem q1325 : (Jvm.Cond.constantLong "AliasStreamsModel" (231 : Nat) (3 : Int64)) ∈ zWd := zmem 1325 (by decide +kernel) rfl
theorem q1326 : (Jvm.Cond.methodLink "AliasStreamsLaw" (178 : Nat) ({ cls := "AliasStreamsModel", name := "failure", desc := "()I" } : Jvm.MethodName)) ∈ zWd := zmem 1326 (by decide +kernel) rfl
theorem q1327 : (Jvm.Cond.instanceMethod ({ cls := "AliasStreamsModel", name := "failure", desc := "()I" } : Jvm.MethodName)) ∈ zWd := zmem 1327 (by decide +kernel) rfl
theorem q1328 : (Jvm.Cond.selects "AliasStreamsModel" ({ cls := "AliasStreamsModel", name := "failure", desc := "()I" } : Jvm.MethodName) ({ cls := "AliasStreamsModel", name := "failure", desc := "()I" } : Jvm.MethodName)) ∈ zWd := zmem 1328 (by decide +kernel) rfl
theorem q1329 : (Jvm.Cond.code ({ cls := "AliasStreamsModel", name := "failure", desc := "()I" } : Jvm.MethodName) prog_13_method_52_code (1 : Nat) (Option.some Jvm.ClassFile.FieldType.int)) ∈ zWd := zmem 1329 (by decide +kernel) rfl
theorem q1330 : (Jvm.Cond.methodLink "AliasStreamsLaw" (182 : Nat) ({ cls := "AliasStreamsModel", name := "unfit", desc := "()I" } : Jvm.MethodName)) ∈ zWd := zmem 1330 (by decide +kernel) rfl
theorem q1331 : (Jvm.Cond.instanceMethod ({ cls := "AliasStreamsModel", name := "unfit", desc := "()I" } : Jvm.MethodName)) ∈ zWd := zmem 1331 (by decide +kernel) rfl
theorem q1332 : (Jvm.Cond.selects "AliasStreamsModel" ({ cls := "AliasStreamsModel", name := "unfit", desc := "()I" } : Jvm.MethodName) ({ cls := "AliasStreamsModel", name := "unfit", desc := "()I" } : Jvm.MethodName)) ∈ zWd := zmem 1332 (by decide +kernel) rfl
theorem q1333 : (Jvm.Cond.code ({ cls := "AliasStreamsModel", name := "unfit", desc := "()I" } : Jvm.MethodName) prog_13_method_53_code (1 : Nat) (Option.some Jvm.ClassFile.FieldType.int)) ∈ zWd := zmem 1333 (by decide +kernel) rfl
theorem q1334 : (Jvm.Cond.methodLink "AliasStreamsLaw" (185 : Nat) ({ cls := "AliasStreamsModel", name := "digitsWith", desc := "(I)I" } : Jvm.MethodName)) ∈ zWd := zmem 1334 (by decide +kernel) rfl
theorem q1335 : (Jvm.Cond.instanceMethod ({ cls := "AliasStreamsModel", name := "digitsWith", desc := "(I)I" } : Jvm.MethodName)) ∈ zWd := zmem 1335 (by decide +kernel) rfl
theorem q1336 : (Jvm.Cond.selects "AliasStreamsModel" ({ cls := "AliasStreamsModel", name := "digitsWith", desc := "(I)I" } : Jvm.MethodName) ({ cls := "AliasStreamsModel", name := "digitsWith", desc := "(I)I" } : Jvm.MethodName)) ∈ zWd := zmem 1336 (by decide +kernel) rfl
theorem q1337 : (Jvm.Cond.code ({ cls := "AliasStreamsModel", name := "digitsWith", desc := "(I)I" } : Jvm.MethodName) prog_13_method_54_code (3 : Nat) (Option.some Jvm.ClassFile.FieldType.int)) ∈ zWd := zmem 1337 (by decide +kernel) rfl
theorem q1338 : (Jvm.Cond.methodLink "AliasStreamsLaw" (188 : Nat) ({ cls := "AliasStreamsModel", name := "product", desc := "(III)J" } : Jvm.MethodName)) ∈ zWd := zmem 1338 (by decide +kernel) rfl
theorem q1339 : (Jvm.Cond.instanceMethod ({ cls := "AliasStreamsModel", name := "product", desc := "(III)J" } : Jvm.MethodName)) ∈ zWd := zmem 1339 (by decide +kernel) rfl
theorem q1340 : (Jvm.Cond.selects "AliasStreamsModel" ({ cls := "AliasStreamsModel", name := "product", desc := "(III)J" } : Jvm.MethodName) ({ cls := "AliasStreamsModel", name := "product", desc := "(III)J" } : Jvm.MethodName)) ∈ zWd := zmem 1340 (by decide +kernel) rfl
theorem q1341 : (Jvm.Cond.code ({ cls := "AliasStreamsModel", name := "product", desc := "(III)J" } : Jvm.MethodName) prog_13_method_57_code (4 : Nat) (Option.some Jvm.ClassFile.FieldType.long)) ∈ zWd := zmem 1341 (by decide +kernel) rfl
theorem q1342 : (Jvm.Cond.methodLink "AliasStreamsModel" (233 : Nat) ({ cls := "AliasStreamsModel", name := "isSequenced", desc := "(I)Z" } : Jvm.MethodName)) ∈ zWd := zmem 1342 (by decide +kernel) rfl
theorem q1344 : (Jvm.Cond.instanceMethod ({ cls := "AliasStreamsModel", name := "isSequenced", desc := "(I)Z" } : Jvm.MethodName)) ∈ zWd := zmem 1344 (by decide +kernel) rfl
theorem q1345 : (Jvm.Cond.code ({ cls := "AliasStreamsModel", name := "isSequenced", desc := "(I)Z" } : Jvm.MethodName) prog_13_method_56_code (2 : Nat) (Option.some Jvm.ClassFile.FieldType.boolean)) ∈ zWd := zmem 1345 (by decide +kernel) rfl
theorem q1346 : (Jvm.Cond.constantLong "AliasStreamsModel" (236 : Nat) (12 : Int64)) ∈ zWd := zmem 1346 (by decide +kernel) rfl
theorem q1347 : (Jvm.Cond.methodLink "AliasStreamsModel" (238 : Nat) ({ cls := "AliasStreamsModel", name := "productOf", desc := "(III)J" } : Jvm.MethodName)) ∈ zWd := zmem 1347 (by decide +kernel) rfl
theorem q1349 : (Jvm.Cond.instanceMethod ({ cls := "AliasStreamsModel", name := "productOf", desc := "(III)J" } : Jvm.MethodName)) ∈ zWd := zmem 1349 (by decide +kernel) rfl
theorem q1350 : (Jvm.Cond.code ({ cls := "AliasStreamsModel", name := "productOf", desc := "(III)J" } : Jvm.MethodName) prog_13_method_55_code (7 : Nat) (Option.some Jvm.ClassFile.FieldType.long)) ∈ zWd := zmem 1350 (by decide +kernel) rfl
theorem q1351 : (Jvm.Cond.methodLink "AliasStreamsLaw" (191 : Nat) ({ cls := "AliasStreamsModel", name := "bestModel", desc := "(II)I" } : Jvm.MethodName)) ∈ zWd := zmem 1351 (by decide +kernel) rfl
theorem q1352 : (Jvm.Cond.instanceMethod ({ cls := "AliasStreamsModel", name := "bestModel", desc := "(II)I" } : Jvm.MethodName)) ∈ zWd := zmem 1352 (by decide +kernel) rfl
theorem q1353 : (Jvm.Cond.selects "AliasStreamsModel" ({ cls := "AliasStreamsModel", name := "bestModel", desc := "(II)I" } : Jvm.MethodName) ({ cls := "AliasStreamsModel", name := "bestModel", desc := "(II)I" } : Jvm.MethodName)) ∈ zWd := zmem 1353 (by decide +kernel) rfl
theorem q1354 : (Jvm.Cond.code ({ cls := "AliasStreamsModel", name := "bestModel", desc := "(II)I" } : Jvm.MethodName) prog_13_method_58_code (5 : Nat) (Option.some Jvm.ClassFile.FieldType.int)) ∈ zWd := zmem 1354 (by decide +kernel) rfl
theorem q1355 : (Jvm.Cond.methodLink "AliasStreamsLaw" (195 : Nat) ({ cls := "AliasStreamsModel", name := "difference", desc := "()I" } : Jvm.MethodName)) ∈ zWd := zmem 1355 (by decide +kernel) rfl
theorem q1356 : (Jvm.Cond.instanceMethod ({ cls := "AliasStreamsModel", name := "difference", desc := "()I" } : Jvm.MethodName)) ∈ zWd := zmem 1356 (by decide +kernel) rfl
theorem q1357 : (Jvm.Cond.selects "AliasStreamsModel" ({ cls := "AliasStreamsModel", name := "difference", desc := "()I" } : Jvm.MethodName) ({ cls := "AliasStreamsModel", name := "difference", desc := "()I" } : Jvm.MethodName)) ∈ zWd := zmem 1357 (by decide +kernel) rfl
theorem q1358 : (Jvm.Cond.code ({ cls := "AliasStreamsModel", name := "difference", desc := "()I" } : Jvm.MethodName) prog_13_method_59_code (3 : Nat) (Option.some Jvm.ClassFile.FieldType.int)) ∈ zWd := zmem 1358 (by decide +kernel) rfl
theorem q1359 : (Jvm.Cond.methodLink "AliasStreamsLaw" (198 : Nat) ({ cls := "AliasStreamsModel", name := "effect", desc := "(III)I" } : Jvm.MethodName)) ∈ zWd := zmem 1359 (by decide +kernel) rfl
theorem q1360 : (Jvm.Cond.instanceMethod ({ cls := "AliasStreamsModel", name := "effect", desc := "(III)I" } : Jvm.MethodName)) ∈ zWd := zmem 1360 (by decide +kernel) rfl
theorem q1361 : (Jvm.Cond.selects "AliasStreamsModel" ({ cls := "AliasStreamsModel", name := "effect", desc := "(III)I" } : Jvm.MethodName) ({ cls := "AliasStreamsModel", name := "effect", desc := "(III)I" } : Jvm.MethodName)) ∈ zWd := zmem 1361 (by decide +kernel) rfl
theorem q1362 : (Jvm.Cond.code ({ cls := "AliasStreamsModel", name := "effect", desc := "(III)I" } : Jvm.MethodName) prog_13_method_60_code (7 : Nat) (Option.some Jvm.ClassFile.FieldType.int)) ∈ zWd := zmem 1362 (by decide +kernel) rfl
theorem q1363 : (Jvm.Cond.methodLink "AliasStreamsLaw" (204 : Nat) ({ cls := "AliasStreamsModel", name := "runScript", desc := "(IJ)I" } : Jvm.MethodName)) ∈ zWd := zmem 1363 (by decide +kernel) rfl
theorem q1364 : (Jvm.Cond.instanceMethod ({ cls := "AliasStreamsModel", name := "runScript", desc := "(IJ)I" } : Jvm.MethodName)) ∈ zWd := zmem 1364 (by decide +kernel) rfl
theorem q1365 : (Jvm.Cond.selects "AliasStreamsModel" ({ cls := "AliasStreamsModel", name := "runScript", desc := "(IJ)I" } : Jvm.MethodName) ({ cls := "AliasStreamsModel", name := "runScript", desc := "(IJ)I" } : Jvm.MethodName)) ∈ zWd := zmem 1365 (by decide +kernel) rfl
theorem q1366 : (Jvm.Cond.code ({ cls := "AliasStreamsModel", name := "runScript", desc := "(IJ)I" } : Jvm.MethodName) prog_13_method_63_code (6 : Nat) (Option.some Jvm.ClassFile.FieldType.int)) ∈ zWd := zmem 1366 (by decide +kernel) rfl
theorem q1367 : (Jvm.Cond.constantLong "AliasStreamsModel" (244 : Nat) (4 : Int64)) ∈ zWd := zmem 1367 (by decide +kernel) rfl
theorem q1368 : (Jvm.Cond.methodLink "AliasStreamsModel" (246 : Nat) ({ cls := "AliasStreamsModel", name := "tenTo", desc := "(I)J" } : Jvm.MethodName)) ∈ zWd := zmem 1368 (by decide +kernel) rfl
theorem q1369 : (Jvm.Cond.static ({ cls := "AliasStreamsModel", name := "tenTo", desc := "(I)J" } : Jvm.MethodName)) ∈ zWd := zmem 1369 (by decide +kernel) rfl
theorem q1370 : (Jvm.Cond.code ({ cls := "AliasStreamsModel", name := "tenTo", desc := "(I)J" } : Jvm.MethodName) prog_13_method_62_code (4 : Nat) (Option.some Jvm.ClassFile.FieldType.long)) ∈ zWd := zmem 1370 (by decide +kernel) rfl
theorem q1371 : (Jvm.Cond.constantLong "AliasStreamsModel" (242 : Nat) (10 : Int64)) ∈ zWd := zmem 1371 (by decide +kernel) rfl
theorem q1372 : (Jvm.Cond.constantLong "AliasStreamsModel" (250 : Nat) (10000 : Int64)) ∈ zWd := zmem 1372 (by decide +kernel) rfl
theorem q1373 : (Jvm.Cond.methodLink "AliasStreamsModel" (252 : Nat) ({ cls := "AliasStreamsModel", name := "does", desc := "(III)Z" } : Jvm.MethodName)) ∈ zWd := zmem 1373 (by decide +kernel) rfl
theorem q1375 : (Jvm.Cond.instanceMethod ({ cls := "AliasStreamsModel", name := "does", desc := "(III)Z" } : Jvm.MethodName)) ∈ zWd := zmem 1375 (by decide +kernel) rfl
theorem q1376 : (Jvm.Cond.code ({ cls := "AliasStreamsModel", name := "does", desc := "(III)Z" } : Jvm.MethodName) prog_13_method_61_code (4 : Nat) (Option.some Jvm.ClassFile.FieldType.boolean)) ∈ zWd := zmem 1376 (by decide +kernel) rfl
theorem q1377 : (Jvm.Cond.methodLink "AliasStreamsLaw" (208 : Nat) ({ cls := "AliasStreamsModel", name := "simulate", desc := "(JI)I" } : Jvm.MethodName)) ∈ zWd := zmem 1377 (by decide +kernel) rfl
theorem q1378 : (Jvm.Cond.instanceMethod ({ cls := "AliasStreamsModel", name := "simulate", desc := "(JI)I" } : Jvm.MethodName)) ∈ zWd := zmem 1378 (by decide +kernel) rfl
theorem q1379 : (Jvm.Cond.selects "AliasStreamsModel" ({ cls := "AliasStreamsModel", name := "simulate", desc := "(JI)I" } : Jvm.MethodName) ({ cls := "AliasStreamsModel", name := "simulate", desc := "(JI)I" } : Jvm.MethodName)) ∈ zWd := zmem 1379 (by decide +kernel) rfl
theorem q1380 : (Jvm.Cond.code ({ cls := "AliasStreamsModel", name := "simulate", desc := "(JI)I" } : Jvm.MethodName) prog_13_method_64_code (9 : Nat) (Option.some Jvm.ClassFile.FieldType.int)) ∈ zWd := zmem 1380 (by decide +kernel) rfl
theorem q1381 : (Jvm.Cond.constantLong "AliasStreamsModel" (256 : Nat) (40 : Int64)) ∈ zWd := zmem 1381 (by decide +kernel) rfl
theorem q1382 : (Jvm.Cond.constantLong "AliasStreamsModel" (258 : Nat) (6364136223846793005 : Int64)) ∈ zWd := zmem 1382 (by decide +kernel) rfl
theorem q1383 : (Jvm.Cond.constantLong "AliasStreamsModel" (260 : Nat) (1442695040888963407 : Int64)) ∈ zWd := zmem 1383 (by decide +kernel) rfl
theorem q1384 : (Jvm.Cond.methodLink "AliasStreamsLaw" (211 : Nat) ({ cls := "AliasStreamsModel", name := "save", desc := "(I)I" } : Jvm.MethodName)) ∈ zWd := zmem 1384 (by decide +kernel) rfl
theorem q1385 : (Jvm.Cond.instanceMethod ({ cls := "AliasStreamsModel", name := "save", desc := "(I)I" } : Jvm.MethodName)) ∈ zWd := zmem 1385 (by decide +kernel) rfl
theorem q1386 : (Jvm.Cond.selects "AliasStreamsModel" ({ cls := "AliasStreamsModel", name := "save", desc := "(I)I" } : Jvm.MethodName) ({ cls := "AliasStreamsModel", name := "save", desc := "(I)I" } : Jvm.MethodName)) ∈ zWd := zmem 1386 (by decide +kernel) rfl
theorem q1387 : (Jvm.Cond.code ({ cls := "AliasStreamsModel", name := "save", desc := "(I)I" } : Jvm.MethodName) prog_13_method_65_code (2 : Nat) (Option.some Jvm.ClassFile.FieldType.int)) ∈ zWd := zmem 1387 (by decide +kernel) rfl
theorem q1388 : (Jvm.Cond.methodLink "AliasStreamsLaw" (214 : Nat) ({ cls := "AliasStreamsModel", name := "restore", desc := "(I)I" } : Jvm.MethodName)) ∈ zWd := zmem 1388 (by decide +kernel) rfl
theorem q1389 : (Jvm.Cond.instanceMethod ({ cls := "AliasStreamsModel", name := "restore", desc := "(I)I" } : Jvm.MethodName)) ∈ zWd := zmem 1389 (by decide +kernel) rfl
theorem q1390 : (Jvm.Cond.selects "AliasStreamsModel" ({ cls := "AliasStreamsModel", name := "restore", desc := "(I)I" } : Jvm.MethodName) ({ cls := "AliasStreamsModel", name := "restore", desc := "(I)I" } : Jvm.MethodName)) ∈ zWd := zmem 1390 (by decide +kernel) rfl
theorem q1391 : (Jvm.Cond.code ({ cls := "AliasStreamsModel", name := "restore", desc := "(I)I" } : Jvm.MethodName) prog_13_method_66_code (2 : Nat) (Option.some Jvm.ClassFile.FieldType.int)) ∈ zWd := zmem 1391 (by decide +kernel) rfl
theorem q1392 : (Jvm.Cond.constantLong "AliasStreamsLaw" (199 : Nat) (4294967295 : Int64)) ∈ zWd := zmem 1392 (by decide +kernel) rfl
theorem q1393 : (Jvm.Cond.arrayClass Jvm.ClassFile.FieldType.long) ∈ zWd := zmem 1393 (by decide +kernel) rfl
theorem qs0 : Cond.selects "AliasStreams$Models" ⟨"AliasStreams$Models", "makeAll", "([I)V"⟩ ⟨"AliasStreams$Models", "makeAll", "([I)V"⟩ ∈ zWd := zmemS 0 (by decide +kernel) rfl
theorem qs1 : Cond.selects "AliasStreams$Model" ⟨"AliasStreams$Model", "make", "([II)V"⟩ ⟨"AliasStreams$Model", "make", "([II)V"⟩ ∈ zWd := zmemS 1 (by decide +kernel) rfl
theorem qs2 : Cond.selects "AliasStreams$Model" ⟨"AliasStreams$Model", "shareOut", "([III)I"⟩ ⟨"AliasStreams$Model", "shareOut", "([III)I"⟩ ∈ zWd := zmemS 2 (by decide +kernel) rfl
theorem qs3 : Cond.selects "AliasStreams$Model" ⟨"AliasStreams$Model", "giveOne", "()V"⟩ ⟨"AliasStreams$Model", "giveOne", "()V"⟩ ∈ zWd := zmemS 3 (by decide +kernel) rfl
theorem qs4 : Cond.selects "AliasStreams$Model" ⟨"AliasStreams$Model", "takeOne", "()V"⟩ ⟨"AliasStreams$Model", "takeOne", "()V"⟩ ∈ zWd := zmemS 4 (by decide +kernel) rfl
theorem qs5 : Cond.selects "AliasStreams$Model" ⟨"AliasStreams$Model", "closeBuckets", "()V"⟩ ⟨"AliasStreams$Model", "closeBuckets", "()V"⟩ ∈ zWd := zmemS 5 (by decide +kernel) rfl
theorem qs6 : Cond.selects "AliasStreams$Model" ⟨"AliasStreams$Model", "closeOne", "()V"⟩ ⟨"AliasStreams$Model", "closeOne", "()V"⟩ ∈ zWd := zmemS 6 (by decide +kernel) rfl
theorem qs7 : Cond.selects "AliasStreams$Model" ⟨"AliasStreams$Model", "firstToClose", "()I"⟩ ⟨"AliasStreams$Model", "firstToClose", "()I"⟩ ∈ zWd := zmemS 7 (by decide +kernel) rfl
theorem qs8 : Cond.selects "AliasStreams$Model" ⟨"AliasStreams$Model", "fullestOpen", "()I"⟩ ⟨"AliasStreams$Model", "fullestOpen", "()I"⟩ ∈ zWd := zmemS 8 (by decide +kernel) rfl
theorem qs9 : Cond.selects "AliasStreams$Model" ⟨"AliasStreams$Model", "numberSlots", "()V"⟩ ⟨"AliasStreams$Model", "numberSlots", "()V"⟩ ∈ zWd := zmemS 9 (by decide +kernel) rfl
theorem qs10 : Cond.selects "AliasStreams$Model" ⟨"AliasStreams$Model", "enterSlot", "(III)V"⟩ ⟨"AliasStreams$Model", "enterSlot", "(III)V"⟩ ∈ zWd := zmemS 10 (by decide +kernel) rfl
theorem qs11 : Cond.selects "AliasStreams$Text" ⟨"AliasStreams$Text", "read", "()I"⟩ ⟨"AliasStreams$Text", "read", "()I"⟩ ∈ zWd := zmemS 11 (by decide +kernel) rfl
theorem qs12 : Cond.selects "AliasStreams$Text" ⟨"AliasStreams$Text", "readSize", "()Z"⟩ ⟨"AliasStreams$Text", "readSize", "()Z"⟩ ∈ zWd := zmemS 12 (by decide +kernel) rfl
theorem qs13 : Cond.selects "AliasStreams$Text" ⟨"AliasStreams$Text", "here", "()I"⟩ ⟨"AliasStreams$Text", "here", "()I"⟩ ∈ zWd := zmemS 13 (by decide +kernel) rfl
theorem qs14 : Cond.selects "AliasStreams$Text" ⟨"AliasStreams$Text", "digitHere", "()I"⟩ ⟨"AliasStreams$Text", "digitHere", "()I"⟩ ∈ zWd := zmemS 14 (by decide +kernel) rfl
theorem qs15 : Cond.selects "AliasStreams$Text" ⟨"AliasStreams$Text", "readModels", "()Z"⟩ ⟨"AliasStreams$Text", "readModels", "()Z"⟩ ∈ zWd := zmemS 15 (by decide +kernel) rfl
theorem qs16 : Cond.selects "AliasStreams$Text" ⟨"AliasStreams$Text", "readCounts", "(I)Z"⟩ ⟨"AliasStreams$Text", "readCounts", "(I)Z"⟩ ∈ zWd := zmemS 16 (by decide +kernel) rfl
theorem qs17 : Cond.selects "AliasStreams$Text" ⟨"AliasStreams$Text", "readItems", "()Z"⟩ ⟨"AliasStreams$Text", "readItems", "()Z"⟩ ∈ zWd := zmemS 17 (by decide +kernel) rfl
theorem qs18 : Cond.selects "AliasStreams$Text" ⟨"AliasStreams$Text", "itemHere", "()I"⟩ ⟨"AliasStreams$Text", "itemHere", "()I"⟩ ∈ zWd := zmemS 18 (by decide +kernel) rfl
theorem qs19 : Cond.selects "AliasStreams$Taking" ⟨"AliasStreams$Taking", "takeAll", "(LAliasStreams$Tape;LAliasStreams$Models;)V"⟩ ⟨"AliasStreams$Taking", "takeAll", "(LAliasStreams$Tape;LAliasStreams$Models;)V"⟩ ∈ zWd := zmemS 19 (by decide +kernel) rfl
theorem qs20 : Cond.selects "AliasStreams$Models" ⟨"AliasStreams$Models", "of", "(I)LAliasStreams$Model;"⟩ ⟨"AliasStreams$Models", "of", "(I)LAliasStreams$Model;"⟩ ∈ zWd := zmemS 20 (by decide +kernel) rfl
theorem qs21 : Cond.selects "AliasStreams$Taking" ⟨"AliasStreams$Taking", "takeSymbol", "(LAliasStreams$Tape;LAliasStreams$Model;I)V"⟩ ⟨"AliasStreams$Taking", "takeSymbol", "(LAliasStreams$Tape;LAliasStreams$Model;I)V"⟩ ∈ zWd := zmemS 21 (by decide +kernel) rfl
theorem qs22 : Cond.selects "AliasStreams$Model" ⟨"AliasStreams$Model", "frequencyOf", "(I)I"⟩ ⟨"AliasStreams$Model", "frequencyOf", "(I)I"⟩ ∈ zWd := zmemS 22 (by decide +kernel) rfl
theorem qs23 : Cond.selects "AliasStreams$Tape" ⟨"AliasStreams$Tape", "hasDigit", "(I)Z"⟩ ⟨"AliasStreams$Tape", "hasDigit", "(I)Z"⟩ ∈ zWd := zmemS 23 (by decide +kernel) rfl
theorem qs24 : Cond.selects "AliasStreams$Symbols" ⟨"AliasStreams$Symbols", "list", "(LAliasStreams$State;)V"⟩ ⟨"AliasStreams$Symbols", "list", "(LAliasStreams$State;)V"⟩ ∈ zWd := zmemS 24 (by decide +kernel) rfl
theorem qs25 : Cond.selects "AliasStreams$Symbols" ⟨"AliasStreams$Symbols", "firstUnfit", "(LAliasStreams$Models;)I"⟩ ⟨"AliasStreams$Symbols", "firstUnfit", "(LAliasStreams$Models;)I"⟩ ∈ zWd := zmemS 25 (by decide +kernel) rfl
theorem qs26 : Cond.selects "AliasStreams$Symbols" ⟨"AliasStreams$Symbols", "has", "(I)Z"⟩ ⟨"AliasStreams$Symbols", "has", "(I)Z"⟩ ∈ zWd := zmemS 26 (by decide +kernel) rfl
theorem qs27 : Cond.selects "java/lang/Throwable" ⟨"java/lang/Throwable", "fillInStackTrace", "(I)Ljava/lang/Throwable;"⟩ ⟨"java/lang/Throwable", "fillInStackTrace", "(I)Ljava/lang/Throwable;"⟩ ∈ zWd := zmemS 27 (by decide +kernel) rfl
theorem qs28 : Cond.selects "AliasStreams$Text" ⟨"AliasStreams$Text", "add", "(I)V"⟩ ⟨"AliasStreams$Text", "add", "(I)V"⟩ ∈ zWd := zmemS 28 (by decide +kernel) rfl
theorem qs29 : Cond.selects "AliasStreams$State" ⟨"AliasStreams$State", "begin", "(LAliasStreams$Text;)V"⟩ ⟨"AliasStreams$State", "begin", "(LAliasStreams$Text;)V"⟩ ∈ zWd := zmemS 29 (by decide +kernel) rfl
theorem qs30 : Cond.selects "AliasStreams$Tape" ⟨"AliasStreams$Tape", "becomeEmpty", "()V"⟩ ⟨"AliasStreams$Tape", "becomeEmpty", "()V"⟩ ∈ zWd := zmemS 30 (by decide +kernel) rfl
theorem qs31 : Cond.selects "AliasStreams$History" ⟨"AliasStreams$History", "forget", "()V"⟩ ⟨"AliasStreams$History", "forget", "()V"⟩ ∈ zWd := zmemS 31 (by decide +kernel) rfl
theorem qs32 : Cond.selects "AliasStreams$Saves" ⟨"AliasStreams$Saves", "empty", "()V"⟩ ⟨"AliasStreams$Saves", "empty", "()V"⟩ ∈ zWd := zmemS 32 (by decide +kernel) rfl
theorem qs33 : Cond.selects "AliasStreams$Models" ⟨"AliasStreams$Models", "hasModel", "(I)Z"⟩ ⟨"AliasStreams$Models", "hasModel", "(I)Z"⟩ ∈ zWd := zmemS 33 (by decide +kernel) rfl
theorem qs34 : Cond.selects "AliasStreams$Models" ⟨"AliasStreams$Models", "hasSymbol", "(I)Z"⟩ ⟨"AliasStreams$Models", "hasSymbol", "(I)Z"⟩ ∈ zWd := zmemS 34 (by decide +kernel) rfl
theorem qs35 : Cond.selects "AliasStreams$State" ⟨"AliasStreams$State", "countOf", "(II)I"⟩ ⟨"AliasStreams$State", "countOf", "(II)I"⟩ ∈ zWd := zmemS 35 (by decide +kernel) rfl
theorem qs36 : Cond.selects "AliasStreams$State" ⟨"AliasStreams$State", "hasItem", "(I)Z"⟩ ⟨"AliasStreams$State", "hasItem", "(I)Z"⟩ ∈ zWd := zmemS 36 (by decide +kernel) rfl
theorem qs37 : Cond.selects "AliasStreams$Tape" ⟨"AliasStreams$Tape", "hasPlanned", "(I)Z"⟩ ⟨"AliasStreams$Tape", "hasPlanned", "(I)Z"⟩ ∈ zWd := zmemS 37 (by decide +kernel) rfl
theorem qs38 : Cond.selects "AliasStreams$State" ⟨"AliasStreams$State", "sumOfCounts", "(I)I"⟩ ⟨"AliasStreams$State", "sumOfCounts", "(I)I"⟩ ∈ zWd := zmemS 38 (by decide +kernel) rfl
theorem qs39 : Cond.selects "AliasStreams$History" ⟨"AliasStreams$History", "remember", "(LAliasStreams$State;)V"⟩ ⟨"AliasStreams$History", "remember", "(LAliasStreams$State;)V"⟩ ∈ zWd := zmemS 39 (by decide +kernel) rfl
theorem qs40 : Cond.selects "AliasStreams$State" ⟨"AliasStreams$State", "copyFrom", "(LAliasStreams$State;)V"⟩ ⟨"AliasStreams$State", "copyFrom", "(LAliasStreams$State;)V"⟩ ∈ zWd := zmemS 40 (by decide +kernel) rfl
theorem qs41 : Cond.selects "AliasStreams$Tape" ⟨"AliasStreams$Tape", "copyFrom", "(LAliasStreams$Tape;)V"⟩ ⟨"AliasStreams$Tape", "copyFrom", "(LAliasStreams$Tape;)V"⟩ ∈ zWd := zmemS 41 (by decide +kernel) rfl
theorem qs42 : Cond.selects "AliasStreams$State" ⟨"AliasStreams$State", "changeCount", "(III)V"⟩ ⟨"AliasStreams$State", "changeCount", "(III)V"⟩ ∈ zWd := zmemS 42 (by decide +kernel) rfl
theorem qs43 : Cond.selects "AliasStreams$Models" ⟨"AliasStreams$Models", "allowItem", "(I)Z"⟩ ⟨"AliasStreams$Models", "allowItem", "(I)Z"⟩ ∈ zWd := zmemS 43 (by decide +kernel) rfl
theorem qs44 : Cond.selects "AliasStreams$State" ⟨"AliasStreams$State", "addItem", "(II)V"⟩ ⟨"AliasStreams$State", "addItem", "(II)V"⟩ ∈ zWd := zmemS 44 (by decide +kernel) rfl
theorem qs45 : Cond.selects "AliasStreams$State" ⟨"AliasStreams$State", "dropItem", "(I)V"⟩ ⟨"AliasStreams$State", "dropItem", "(I)V"⟩ ∈ zWd := zmemS 45 (by decide +kernel) rfl
theorem qs46 : Cond.selects "AliasStreams$Tape" ⟨"AliasStreams$Tape", "fill", "(LAliasStreams$Symbols;LAliasStreams$Models;)V"⟩ ⟨"AliasStreams$Tape", "fill", "(LAliasStreams$Symbols;LAliasStreams$Models;)V"⟩ ∈ zWd := zmemS 46 (by decide +kernel) rfl
theorem qs47 : Cond.selects "AliasStreams$Tape" ⟨"AliasStreams$Tape", "putSymbol", "(LAliasStreams$Model;II)V"⟩ ⟨"AliasStreams$Tape", "putSymbol", "(LAliasStreams$Model;II)V"⟩ ∈ zWd := zmemS 47 (by decide +kernel) rfl
theorem qs48 : Cond.selects "AliasStreams$Tape" ⟨"AliasStreams$Tape", "writeDigit", "(I)V"⟩ ⟨"AliasStreams$Tape", "writeDigit", "(I)V"⟩ ∈ zWd := zmemS 48 (by decide +kernel) rfl
theorem qs49 : Cond.selects "AliasStreams$Model" ⟨"AliasStreams$Model", "slotOf", "(II)I"⟩ ⟨"AliasStreams$Model", "slotOf", "(II)I"⟩ ∈ zWd := zmemS 49 (by decide +kernel) rfl
theorem qs50 : Cond.selects "AliasStreams$Tape" ⟨"AliasStreams$Tape", "itemsNeeded", "()I"⟩ ⟨"AliasStreams$Tape", "itemsNeeded", "()I"⟩ ∈ zWd := zmemS 50 (by decide +kernel) rfl
theorem qs51 : Cond.selects "AliasStreams$State" ⟨"AliasStreams$State", "takeMessage", "(LAliasStreams$Taking;)V"⟩ ⟨"AliasStreams$State", "takeMessage", "(LAliasStreams$Taking;)V"⟩ ∈ zWd := zmemS 51 (by decide +kernel) rfl
theorem qs52 : Cond.selects "AliasStreams$History" ⟨"AliasStreams$History", "giveBack", "(LAliasStreams$State;)V"⟩ ⟨"AliasStreams$History", "giveBack", "(LAliasStreams$State;)V"⟩ ∈ zWd := zmemS 52 (by decide +kernel) rfl
theorem qs53 : Cond.selects "AliasStreams$Symbols" ⟨"AliasStreams$Symbols", "useOneModel", "(I)V"⟩ ⟨"AliasStreams$Symbols", "useOneModel", "(I)V"⟩ ∈ zWd := zmemS 53 (by decide +kernel) rfl
theorem qs54 : Cond.selects "AliasStreams$Symbols" ⟨"AliasStreams$Symbols", "multiply", "(LAliasStreams$Model;II)J"⟩ ⟨"AliasStreams$Symbols", "multiply", "(LAliasStreams$Model;II)J"⟩ ∈ zWd := zmemS 54 (by decide +kernel) rfl
theorem qs55 : Cond.selects "AliasStreams$Taking" ⟨"AliasStreams$Taking", "countOtherSymbols", "(LAliasStreams$Taking;)I"⟩ ⟨"AliasStreams$Taking", "countOtherSymbols", "(LAliasStreams$Taking;)I"⟩ ∈ zWd := zmemS 55 (by decide +kernel) rfl
theorem qs56 : Cond.selects "AliasStreams$Script" ⟨"AliasStreams$Script", "run", "(LAliasStreams$State;LAliasStreams$Models;IJ)I"⟩ ⟨"AliasStreams$Script", "run", "(LAliasStreams$State;LAliasStreams$Models;IJ)I"⟩ ∈ zWd := zmemS 56 (by decide +kernel) rfl
theorem qs57 : Cond.selects "AliasStreams$Script" ⟨"AliasStreams$Script", "execute", "(ILAliasStreams$Models;)Z"⟩ ⟨"AliasStreams$Script", "execute", "(ILAliasStreams$Models;)Z"⟩ ∈ zWd := zmemS 57 (by decide +kernel) rfl
theorem qs58 : Cond.selects "AliasStreams$Script" ⟨"AliasStreams$Script", "addLast", "(ILAliasStreams$Models;)Z"⟩ ⟨"AliasStreams$Script", "addLast", "(ILAliasStreams$Models;)Z"⟩ ∈ zWd := zmemS 58 (by decide +kernel) rfl
theorem qs59 : Cond.selects "AliasStreams$Script" ⟨"AliasStreams$Script", "dropOne", "(I)Z"⟩ ⟨"AliasStreams$Script", "dropOne", "(I)Z"⟩ ∈ zWd := zmemS 59 (by decide +kernel) rfl
theorem qs60 : Cond.selects "AliasStreams$Script" ⟨"AliasStreams$Script", "fillTape", "(LAliasStreams$Models;)Z"⟩ ⟨"AliasStreams$Script", "fillTape", "(LAliasStreams$Models;)Z"⟩ ∈ zWd := zmemS 60 (by decide +kernel) rfl
theorem qs61 : Cond.selects "AliasStreams$Script" ⟨"AliasStreams$Script", "takeMessage", "(LAliasStreams$Models;)Z"⟩ ⟨"AliasStreams$Script", "takeMessage", "(LAliasStreams$Models;)Z"⟩ ∈ zWd := zmemS 61 (by decide +kernel) rfl
theorem qs62 : Cond.selects "AliasStreams$Script" ⟨"AliasStreams$Script", "changeDigit", "(II)Z"⟩ ⟨"AliasStreams$Script", "changeDigit", "(II)Z"⟩ ∈ zWd := zmemS 62 (by decide +kernel) rfl
theorem qs63 : Cond.selects "AliasStreams$Script" ⟨"AliasStreams$Script", "isIntact", "(LAliasStreams$Models;)Z"⟩ ⟨"AliasStreams$Script", "isIntact", "(LAliasStreams$Models;)Z"⟩ ∈ zWd := zmemS 63 (by decide +kernel) rfl
theorem qs64 : Cond.selects "AliasStreams$Script" ⟨"AliasStreams$Script", "takes", "(IILAliasStreams$Models;)Z"⟩ ⟨"AliasStreams$Script", "takes", "(IILAliasStreams$Models;)Z"⟩ ∈ zWd := zmemS 64 (by decide +kernel) rfl
theorem qs65 : Cond.selects "AliasStreams$Tape" ⟨"AliasStreams$Tape", "disturb", "(I)V"⟩ ⟨"AliasStreams$Tape", "disturb", "(I)V"⟩ ∈ zWd := zmemS 65 (by decide +kernel) rfl
theorem qs66 : Cond.selects "AliasStreamsModel" ⟨"AliasStreamsModel", "refused", "(I)Z"⟩ ⟨"AliasStreamsModel", "refused", "(I)Z"⟩ ∈ zWd := zmemS 66 (by decide +kernel) rfl
theorem qs67 : Cond.selects "AliasStreamsModel" ⟨"AliasStreamsModel", "readAll", "()Z"⟩ ⟨"AliasStreamsModel", "readAll", "()Z"⟩ ∈ zWd := zmemS 67 (by decide +kernel) rfl
theorem qs68 : Cond.selects "AliasStreamsModel" ⟨"AliasStreamsModel", "next", "(I)I"⟩ ⟨"AliasStreamsModel", "next", "(I)I"⟩ ∈ zWd := zmemS 68 (by decide +kernel) rfl
theorem qs69 : Cond.selects "AliasStreamsModel" ⟨"AliasStreamsModel", "accepts", "(Z)Z"⟩ ⟨"AliasStreamsModel", "accepts", "(Z)Z"⟩ ∈ zWd := zmemS 69 (by decide +kernel) rfl
theorem qs70 : Cond.selects "AliasStreamsModel" ⟨"AliasStreamsModel", "readCounts", "()Z"⟩ ⟨"AliasStreamsModel", "readCounts", "()Z"⟩ ∈ zWd := zmemS 70 (by decide +kernel) rfl
theorem qs71 : Cond.selects "AliasStreamsModel" ⟨"AliasStreamsModel", "readItems", "()Z"⟩ ⟨"AliasStreamsModel", "readItems", "()Z"⟩ ∈ zWd := zmemS 71 (by decide +kernel) rfl
theorem qs72 : Cond.selects "AliasStreamsModel" ⟨"AliasStreamsModel", "layMessage", "([I)V"⟩ ⟨"AliasStreamsModel", "layMessage", "([I)V"⟩ ∈ zWd := zmemS 72 (by decide +kernel) rfl
theorem qs73 : Cond.selects "AliasStreamsModel" ⟨"AliasStreamsModel", "layTables", "([I)V"⟩ ⟨"AliasStreamsModel", "layTables", "([I)V"⟩ ∈ zWd := zmemS 73 (by decide +kernel) rfl
theorem qs74 : Cond.selects "AliasStreamsModel" ⟨"AliasStreamsModel", "layFrequencies", "([II)V"⟩ ⟨"AliasStreamsModel", "layFrequencies", "([II)V"⟩ ∈ zWd := zmemS 74 (by decide +kernel) rfl
theorem qs75 : Cond.selects "AliasStreamsModel" ⟨"AliasStreamsModel", "laySlots", "(I)V"⟩ ⟨"AliasStreamsModel", "laySlots", "(I)V"⟩ ∈ zWd := zmemS 75 (by decide +kernel) rfl
theorem qs76 : Cond.selects "AliasStreamsModel" ⟨"AliasStreamsModel", "take", "([I)Z"⟩ ⟨"AliasStreamsModel", "take", "([I)Z"⟩ ∈ zWd := zmemS 76 (by decide +kernel) rfl
theorem qs77 : Cond.selects "AliasStreamsModel" ⟨"AliasStreamsModel", "isModel", "(I)Z"⟩ ⟨"AliasStreamsModel", "isModel", "(I)Z"⟩ ∈ zWd := zmemS 77 (by decide +kernel) rfl
theorem qs78 : Cond.selects "AliasStreamsModel" ⟨"AliasStreamsModel", "isSymbol", "(I)Z"⟩ ⟨"AliasStreamsModel", "isSymbol", "(I)Z"⟩ ∈ zWd := zmemS 78 (by decide +kernel) rfl
theorem qs79 : Cond.selects "AliasStreamsModel" ⟨"AliasStreamsModel", "isItem", "(I)Z"⟩ ⟨"AliasStreamsModel", "isItem", "(I)Z"⟩ ∈ zWd := zmemS 79 (by decide +kernel) rfl
theorem qs80 : Cond.selects "AliasStreamsModel" ⟨"AliasStreamsModel", "note", "()V"⟩ ⟨"AliasStreamsModel", "note", "()V"⟩ ∈ zWd := zmemS 80 (by decide +kernel) rfl
theorem qs81 : Cond.selects "AliasStreamsModel" ⟨"AliasStreamsModel", "isThing", "(I)Z"⟩ ⟨"AliasStreamsModel", "isThing", "(I)Z"⟩ ∈ zWd := zmemS 81 (by decide +kernel) rfl
theorem qs82 : Cond.selects "AliasStreamsModel" ⟨"AliasStreamsModel", "canEncode", "([I)Z"⟩ ⟨"AliasStreamsModel", "canEncode", "([I)Z"⟩ ∈ zWd := zmemS 82 (by decide +kernel) rfl
theorem qs83 : Cond.selects "AliasStreamsModel" ⟨"AliasStreamsModel", "unfitOf", "()I"⟩ ⟨"AliasStreamsModel", "unfitOf", "()I"⟩ ∈ zWd := zmemS 83 (by decide +kernel) rfl
theorem qs84 : Cond.selects "AliasStreamsModel" ⟨"AliasStreamsModel", "encodeTo", "([I)V"⟩ ⟨"AliasStreamsModel", "encodeTo", "([I)V"⟩ ∈ zWd := zmemS 84 (by decide +kernel) rfl
theorem qs85 : Cond.selects "AliasStreamsModel" ⟨"AliasStreamsModel", "canDecode", "([I)Z"⟩ ⟨"AliasStreamsModel", "canDecode", "([I)Z"⟩ ∈ zWd := zmemS 85 (by decide +kernel) rfl
theorem qs86 : Cond.selects "AliasStreamsModel" ⟨"AliasStreamsModel", "fails", "([I)Z"⟩ ⟨"AliasStreamsModel", "fails", "([I)Z"⟩ ∈ zWd := zmemS 86 (by decide +kernel) rfl
theorem qs87 : Cond.selects "AliasStreamsModel" ⟨"AliasStreamsModel", "itemsOf", "([I)I"⟩ ⟨"AliasStreamsModel", "itemsOf", "([I)I"⟩ ∈ zWd := zmemS 87 (by decide +kernel) rfl
theorem qs88 : Cond.selects "AliasStreamsModel" ⟨"AliasStreamsModel", "decodeTo", "([I)V"⟩ ⟨"AliasStreamsModel", "decodeTo", "([I)V"⟩ ∈ zWd := zmemS 88 (by decide +kernel) rfl
theorem qs89 : Cond.selects "AliasStreamsModel" ⟨"AliasStreamsModel", "isDigit", "(I)Z"⟩ ⟨"AliasStreamsModel", "isDigit", "(I)Z"⟩ ∈ zWd := zmemS 89 (by decide +kernel) rfl
theorem qs90 : Cond.selects "AliasStreamsModel" ⟨"AliasStreamsModel", "isPlanned", "(I)Z"⟩ ⟨"AliasStreamsModel", "isPlanned", "(I)Z"⟩ ∈ zWd := zmemS 90 (by decide +kernel) rfl
theorem qs91 : Cond.selects "AliasStreamsModel" ⟨"AliasStreamsModel", "isSequenced", "(I)Z"⟩ ⟨"AliasStreamsModel", "isSequenced", "(I)Z"⟩ ∈ zWd := zmemS 91 (by decide +kernel) rfl
theorem qs92 : Cond.selects "AliasStreamsModel" ⟨"AliasStreamsModel", "productOf", "(III)J"⟩ ⟨"AliasStreamsModel", "productOf", "(III)J"⟩ ∈ zWd := zmemS 92 (by decide +kernel) rfl
theorem qs93 : Cond.selects "AliasStreamsModel" ⟨"AliasStreamsModel", "does", "(III)Z"⟩ ⟨"AliasStreamsModel", "does", "(III)Z"⟩ ∈ zWd := zmemS 93 (by decide +kernel) rfl
