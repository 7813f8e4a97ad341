theorem mt_1_1 : (Jvm.Cond.initialized "SourceDesk") ∈ lw_t := lw_m (lw_in_1 (List.mem_of_getElem? (i := 1) (by decide +kernel))) rfl
theorem mt_1_12 : (Jvm.Cond.classLink "SourceDeskLaw" (7 : Nat) "SourceDesk") ∈ lw_t := lw_m (lw_in_1 (List.mem_of_getElem? (i := 12) (by decide +kernel))) rfl
theorem mt_1_13 : (Jvm.Cond.instantiable "SourceDesk" (6 : Nat)) ∈ lw_t := lw_m (lw_in_1 (List.mem_of_getElem? (i := 13) (by decide +kernel))) rfl
theorem mt_1_14 : (Jvm.Cond.methodLink "SourceDeskLaw" (9 : Nat) ({ cls := "SourceDesk", name := "<init>", desc := "()V" } : Jvm.MethodName)) ∈ lw_t := lw_m (lw_in_1 (List.mem_of_getElem? (i := 14) (by decide +kernel))) rfl
theorem mt_1_15 : (Jvm.Cond.instanceMethod ({ cls := "SourceDesk", name := "<init>", desc := "()V" } : Jvm.MethodName)) ∈ lw_t := lw_m (lw_in_1 (List.mem_of_getElem? (i := 15) (by decide +kernel))) rfl
theorem mt_1_16 : (Jvm.Cond.code ({ cls := "SourceDesk", name := "<init>", desc := "()V" } : Jvm.MethodName) prog_1_method_1_code (1 : Nat) (Option.none : Option Jvm.ClassFile.FieldType)) ∈ lw_t := lw_m (lw_in_1 (List.mem_of_getElem? (i := 16) (by decide +kernel))) rfl
theorem mt_1_169 : (Jvm.Cond.methodLink "SourceDeskLaw" (13 : Nat) ({ cls := "SourceDesk", name := "put", desc := "(II)I" } : Jvm.MethodName)) ∈ lw_t := lw_m (lw_in_1 (List.mem_of_getElem? (i := 169) (by decide +kernel))) rfl
theorem mt_1_170 : (Jvm.Cond.instanceMethod ({ cls := "SourceDesk", name := "put", desc := "(II)I" } : Jvm.MethodName)) ∈ lw_t := lw_m (lw_in_1 (List.mem_of_getElem? (i := 170) (by decide +kernel))) rfl
theorem mt_1_171 : (Jvm.Cond.selects "SourceDesk" ({ cls := "SourceDesk", name := "put", desc := "(II)I" } : Jvm.MethodName) ({ cls := "SourceDesk", name := "put", desc := "(II)I" } : Jvm.MethodName)) ∈ lw_t := lw_m (lw_in_1 (List.mem_of_getElem? (i := 171) (by decide +kernel))) rfl
theorem mt_1_172 : (Jvm.Cond.code ({ cls := "SourceDesk", name := "put", desc := "(II)I" } : Jvm.MethodName) prog_1_method_2_code (3 : Nat) (Option.some Jvm.ClassFile.FieldType.int)) ∈ lw_t := lw_m (lw_in_1 (List.mem_of_getElem? (i := 172) (by decide +kernel))) rfl
theorem mt_1_198 : (Jvm.Cond.methodLink "SourceDeskLaw" (18 : Nat) ({ cls := "SourceDesk", name := "change", desc := "(III)Z" } : Jvm.MethodName)) ∈ lw_t := lw_m (lw_in_1 (List.mem_of_getElem? (i := 198) (by decide +kernel))) rfl
theorem mt_1_199 : (Jvm.Cond.instanceMethod ({ cls := "SourceDesk", name := "change", desc := "(III)Z" } : Jvm.MethodName)) ∈ lw_t := lw_m (lw_in_1 (List.mem_of_getElem? (i := 199) (by decide +kernel))) rfl
theorem mt_1_200 : (Jvm.Cond.selects "SourceDesk" ({ cls := "SourceDesk", name := "change", desc := "(III)Z" } : Jvm.MethodName) ({ cls := "SourceDesk", name := "change", desc := "(III)Z" } : Jvm.MethodName)) ∈ lw_t := lw_m (lw_in_1 (List.mem_of_getElem? (i := 200) (by decide +kernel))) rfl
theorem mt_1_201 : (Jvm.Cond.code ({ cls := "SourceDesk", name := "change", desc := "(III)Z" } : Jvm.MethodName) prog_1_method_3_code (4 : Nat) (Option.some Jvm.ClassFile.FieldType.boolean)) ∈ lw_t := lw_m (lw_in_1 (List.mem_of_getElem? (i := 201) (by decide +kernel))) rfl
theorem mt_1_204 : (Jvm.Cond.methodLink "SourceDeskLaw" (23 : Nat) ({ cls := "SourceDesk", name := "clear", desc := "(I)I" } : Jvm.MethodName)) ∈ lw_t := lw_m (lw_in_1 (List.mem_of_getElem? (i := 204) (by decide +kernel))) rfl
theorem mt_1_205 : (Jvm.Cond.instanceMethod ({ cls := "SourceDesk", name := "clear", desc := "(I)I" } : Jvm.MethodName)) ∈ lw_t := lw_m (lw_in_1 (List.mem_of_getElem? (i := 205) (by decide +kernel))) rfl
theorem mt_1_206 : (Jvm.Cond.selects "SourceDesk" ({ cls := "SourceDesk", name := "clear", desc := "(I)I" } : Jvm.MethodName) ({ cls := "SourceDesk", name := "clear", desc := "(I)I" } : Jvm.MethodName)) ∈ lw_t := lw_m (lw_in_1 (List.mem_of_getElem? (i := 206) (by decide +kernel))) rfl
theorem mt_1_207 : (Jvm.Cond.code ({ cls := "SourceDesk", name := "clear", desc := "(I)I" } : Jvm.MethodName) prog_1_method_4_code (3 : Nat) (Option.some Jvm.ClassFile.FieldType.int)) ∈ lw_t := lw_m (lw_in_1 (List.mem_of_getElem? (i := 207) (by decide +kernel))) rfl
theorem mt_1_224 : (Jvm.Cond.methodLink "SourceDeskLaw" (28 : Nat) ({ cls := "SourceDesk", name := "code", desc := "(II)I" } : Jvm.MethodName)) ∈ lw_t := lw_m (lw_in_1 (List.mem_of_getElem? (i := 224) (by decide +kernel))) rfl
theorem mt_1_225 : (Jvm.Cond.instanceMethod ({ cls := "SourceDesk", name := "code", desc := "(II)I" } : Jvm.MethodName)) ∈ lw_t := lw_m (lw_in_1 (List.mem_of_getElem? (i := 225) (by decide +kernel))) rfl
theorem mt_1_226 : (Jvm.Cond.selects "SourceDesk" ({ cls := "SourceDesk", name := "code", desc := "(II)I" } : Jvm.MethodName) ({ cls := "SourceDesk", name := "code", desc := "(II)I" } : Jvm.MethodName)) ∈ lw_t := lw_m (lw_in_1 (List.mem_of_getElem? (i := 226) (by decide +kernel))) rfl
theorem mt_1_227 : (Jvm.Cond.code ({ cls := "SourceDesk", name := "code", desc := "(II)I" } : Jvm.MethodName) prog_1_method_5_code (3 : Nat) (Option.some Jvm.ClassFile.FieldType.int)) ∈ lw_t := lw_m (lw_in_1 (List.mem_of_getElem? (i := 227) (by decide +kernel))) rfl
theorem mt_2_0 : (Jvm.Cond.methodLink "SourceDeskLaw" (32 : Nat) ({ cls := "SourceDesk", name := "verify", desc := "()I" } : Jvm.MethodName)) ∈ lw_t := lw_m (lw_in_2 (List.mem_of_getElem? (i := 0) (by decide +kernel))) rfl
theorem mt_2_1 : (Jvm.Cond.instanceMethod ({ cls := "SourceDesk", name := "verify", desc := "()I" } : Jvm.MethodName)) ∈ lw_t := lw_m (lw_in_2 (List.mem_of_getElem? (i := 1) (by decide +kernel))) rfl
theorem mt_2_2 : (Jvm.Cond.selects "SourceDesk" ({ cls := "SourceDesk", name := "verify", desc := "()I" } : Jvm.MethodName) ({ cls := "SourceDesk", name := "verify", desc := "()I" } : Jvm.MethodName)) ∈ lw_t := lw_m (lw_in_2 (List.mem_of_getElem? (i := 2) (by decide +kernel))) rfl
theorem mt_2_3 : (Jvm.Cond.code ({ cls := "SourceDesk", name := "verify", desc := "()I" } : Jvm.MethodName) prog_1_method_6_code (1 : Nat) (Option.some Jvm.ClassFile.FieldType.int)) ∈ lw_t := lw_m (lw_in_2 (List.mem_of_getElem? (i := 3) (by decide +kernel))) rfl
theorem mt_2_19 : (Jvm.Cond.methodLink "SourceDeskLaw" (37 : Nat) ({ cls := "SourceDesk", name := "lift", desc := "()I" } : Jvm.MethodName)) ∈ lw_t := lw_m (lw_in_2 (List.mem_of_getElem? (i := 19) (by decide +kernel))) rfl
theorem mt_2_20 : (Jvm.Cond.instanceMethod ({ cls := "SourceDesk", name := "lift", desc := "()I" } : Jvm.MethodName)) ∈ lw_t := lw_m (lw_in_2 (List.mem_of_getElem? (i := 20) (by decide +kernel))) rfl
theorem mt_2_21 : (Jvm.Cond.selects "SourceDesk" ({ cls := "SourceDesk", name := "lift", desc := "()I" } : Jvm.MethodName) ({ cls := "SourceDesk", name := "lift", desc := "()I" } : Jvm.MethodName)) ∈ lw_t := lw_m (lw_in_2 (List.mem_of_getElem? (i := 21) (by decide +kernel))) rfl
theorem mt_2_22 : (Jvm.Cond.code ({ cls := "SourceDesk", name := "lift", desc := "()I" } : Jvm.MethodName) prog_1_method_7_code (1 : Nat) (Option.some Jvm.ClassFile.FieldType.int)) ∈ lw_t := lw_m (lw_in_2 (List.mem_of_getElem? (i := 22) (by decide +kernel))) rfl
theorem mt_2_149 : (Jvm.Cond.methodLink "SourceDeskLaw" (41 : Nat) ({ cls := "SourceDesk", name := "text", desc := "(I)I" } : Jvm.MethodName)) ∈ lw_t := lw_m (lw_in_2 (List.mem_of_getElem? (i := 149) (by decide +kernel))) rfl
theorem mt_2_150 : (Jvm.Cond.instanceMethod ({ cls := "SourceDesk", name := "text", desc := "(I)I" } : Jvm.MethodName)) ∈ lw_t := lw_m (lw_in_2 (List.mem_of_getElem? (i := 150) (by decide +kernel))) rfl
theorem mt_2_151 : (Jvm.Cond.selects "SourceDesk" ({ cls := "SourceDesk", name := "text", desc := "(I)I" } : Jvm.MethodName) ({ cls := "SourceDesk", name := "text", desc := "(I)I" } : Jvm.MethodName)) ∈ lw_t := lw_m (lw_in_2 (List.mem_of_getElem? (i := 151) (by decide +kernel))) rfl
theorem mt_2_152 : (Jvm.Cond.code ({ cls := "SourceDesk", name := "text", desc := "(I)I" } : Jvm.MethodName) prog_1_method_8_code (2 : Nat) (Option.some Jvm.ClassFile.FieldType.int)) ∈ lw_t := lw_m (lw_in_2 (List.mem_of_getElem? (i := 152) (by decide +kernel))) rfl
theorem mt_2_157 : (Jvm.Cond.methodLink "SourceDeskLaw" (45 : Nat) ({ cls := "SourceDesk", name := "where", desc := "()I" } : Jvm.MethodName)) ∈ lw_t := lw_m (lw_in_2 (List.mem_of_getElem? (i := 157) (by decide +kernel))) rfl
theorem mt_2_158 : (Jvm.Cond.instanceMethod ({ cls := "SourceDesk", name := "where", desc := "()I" } : Jvm.MethodName)) ∈ lw_t := lw_m (lw_in_2 (List.mem_of_getElem? (i := 158) (by decide +kernel))) rfl
theorem mt_2_159 : (Jvm.Cond.selects "SourceDesk" ({ cls := "SourceDesk", name := "where", desc := "()I" } : Jvm.MethodName) ({ cls := "SourceDesk", name := "where", desc := "()I" } : Jvm.MethodName)) ∈ lw_t := lw_m (lw_in_2 (List.mem_of_getElem? (i := 159) (by decide +kernel))) rfl
theorem mt_2_160 : (Jvm.Cond.code ({ cls := "SourceDesk", name := "where", desc := "()I" } : Jvm.MethodName) prog_1_method_9_code (1 : Nat) (Option.some Jvm.ClassFile.FieldType.int)) ∈ lw_t := lw_m (lw_in_2 (List.mem_of_getElem? (i := 160) (by decide +kernel))) rfl
theorem mt_2_161 : (Jvm.Cond.methodLink "SourceDeskLaw" (49 : Nat) ({ cls := "SourceDesk", name := "letter", desc := "(I)I" } : Jvm.MethodName)) ∈ lw_t := lw_m (lw_in_2 (List.mem_of_getElem? (i := 161) (by decide +kernel))) rfl
theorem mt_2_162 : (Jvm.Cond.instanceMethod ({ cls := "SourceDesk", name := "letter", desc := "(I)I" } : Jvm.MethodName)) ∈ lw_t := lw_m (lw_in_2 (List.mem_of_getElem? (i := 162) (by decide +kernel))) rfl
theorem mt_2_163 : (Jvm.Cond.selects "SourceDesk" ({ cls := "SourceDesk", name := "letter", desc := "(I)I" } : Jvm.MethodName) ({ cls := "SourceDesk", name := "letter", desc := "(I)I" } : Jvm.MethodName)) ∈ lw_t := lw_m (lw_in_2 (List.mem_of_getElem? (i := 163) (by decide +kernel))) rfl
theorem mt_2_164 : (Jvm.Cond.code ({ cls := "SourceDesk", name := "letter", desc := "(I)I" } : Jvm.MethodName) prog_1_method_10_code (2 : Nat) (Option.some Jvm.ClassFile.FieldType.int)) ∈ lw_t := lw_m (lw_in_2 (List.mem_of_getElem? (i := 164) (by decide +kernel))) rfl
theorem mt_2_166 : (Jvm.Cond.methodLink "SourceDeskLaw" (53 : Nat) ({ cls := "SourceDesk", name := "copy", desc := "()I" } : Jvm.MethodName)) ∈ lw_t := lw_m (lw_in_2 (List.mem_of_getElem? (i := 166) (by decide +kernel))) rfl
theorem mt_2_167 : (Jvm.Cond.instanceMethod ({ cls := "SourceDesk", name := "copy", desc := "()I" } : Jvm.MethodName)) ∈ lw_t := lw_m (lw_in_2 (List.mem_of_getElem? (i := 167) (by decide +kernel))) rfl
theorem mt_2_168 : (Jvm.Cond.selects "SourceDesk" ({ cls := "SourceDesk", name := "copy", desc := "()I" } : Jvm.MethodName) ({ cls := "SourceDesk", name := "copy", desc := "()I" } : Jvm.MethodName)) ∈ lw_t := lw_m (lw_in_2 (List.mem_of_getElem? (i := 168) (by decide +kernel))) rfl
theorem mt_2_169 : (Jvm.Cond.code ({ cls := "SourceDesk", name := "copy", desc := "()I" } : Jvm.MethodName) prog_1_method_11_code (1 : Nat) (Option.some Jvm.ClassFile.FieldType.int)) ∈ lw_t := lw_m (lw_in_2 (List.mem_of_getElem? (i := 169) (by decide +kernel))) rfl
theorem mt_2_176 : (Jvm.Cond.methodLink "SourceDeskLaw" (57 : Nat) ({ cls := "SourceDesk", name := "read", desc := "()I" } : Jvm.MethodName)) ∈ lw_t := lw_m (lw_in_2 (List.mem_of_getElem? (i := 176) (by decide +kernel))) rfl
theorem mt_2_177 : (Jvm.Cond.instanceMethod ({ cls := "SourceDesk", name := "read", desc := "()I" } : Jvm.MethodName)) ∈ lw_t := lw_m (lw_in_2 (List.mem_of_getElem? (i := 177) (by decide +kernel))) rfl
theorem mt_2_178 : (Jvm.Cond.selects "SourceDesk" ({ cls := "SourceDesk", name := "read", desc := "()I" } : Jvm.MethodName) ({ cls := "SourceDesk", name := "read", desc := "()I" } : Jvm.MethodName)) ∈ lw_t := lw_m (lw_in_2 (List.mem_of_getElem? (i := 178) (by decide +kernel))) rfl
theorem mt_2_179 : (Jvm.Cond.code ({ cls := "SourceDesk", name := "read", desc := "()I" } : Jvm.MethodName) prog_1_method_12_code (1 : Nat) (Option.some Jvm.ClassFile.FieldType.int)) ∈ lw_t := lw_m (lw_in_2 (List.mem_of_getElem? (i := 179) (by decide +kernel))) rfl
theorem mt_3_16 : (Jvm.Cond.methodLink "SourceDeskLaw" (61 : Nat) ({ cls := "SourceDesk", name := "run", desc := "(II)I" } : Jvm.MethodName)) ∈ lw_t := lw_m (lw_in_3 (List.mem_of_getElem? (i := 16) (by decide +kernel))) rfl
theorem mt_3_17 : (Jvm.Cond.instanceMethod ({ cls := "SourceDesk", name := "run", desc := "(II)I" } : Jvm.MethodName)) ∈ lw_t := lw_m (lw_in_3 (List.mem_of_getElem? (i := 17) (by decide +kernel))) rfl
theorem mt_3_18 : (Jvm.Cond.selects "SourceDesk" ({ cls := "SourceDesk", name := "run", desc := "(II)I" } : Jvm.MethodName) ({ cls := "SourceDesk", name := "run", desc := "(II)I" } : Jvm.MethodName)) ∈ lw_t := lw_m (lw_in_3 (List.mem_of_getElem? (i := 18) (by decide +kernel))) rfl
theorem mt_3_19 : (Jvm.Cond.code ({ cls := "SourceDesk", name := "run", desc := "(II)I" } : Jvm.MethodName) prog_1_method_13_code (3 : Nat) (Option.some Jvm.ClassFile.FieldType.int)) ∈ lw_t := lw_m (lw_in_3 (List.mem_of_getElem? (i := 19) (by decide +kernel))) rfl
theorem mt_3_70 : (Jvm.Cond.methodLink "SourceDeskLaw" (65 : Nat) ({ cls := "SourceDesk", name := "walk", desc := "(II)I" } : Jvm.MethodName)) ∈ lw_t := lw_m (lw_in_3 (List.mem_of_getElem? (i := 70) (by decide +kernel))) rfl
theorem mt_3_71 : (Jvm.Cond.instanceMethod ({ cls := "SourceDesk", name := "walk", desc := "(II)I" } : Jvm.MethodName)) ∈ lw_t := lw_m (lw_in_3 (List.mem_of_getElem? (i := 71) (by decide +kernel))) rfl
theorem mt_3_72 : (Jvm.Cond.selects "SourceDesk" ({ cls := "SourceDesk", name := "walk", desc := "(II)I" } : Jvm.MethodName) ({ cls := "SourceDesk", name := "walk", desc := "(II)I" } : Jvm.MethodName)) ∈ lw_t := lw_m (lw_in_3 (List.mem_of_getElem? (i := 72) (by decide +kernel))) rfl
theorem mt_3_73 : (Jvm.Cond.code ({ cls := "SourceDesk", name := "walk", desc := "(II)I" } : Jvm.MethodName) prog_1_method_14_code (3 : Nat) (Option.some Jvm.ClassFile.FieldType.int)) ∈ lw_t := lw_m (lw_in_3 (List.mem_of_getElem? (i := 73) (by decide +kernel))) rfl
theorem mt_3_113 : (Jvm.Cond.methodLink "SourceDeskLaw" (69 : Nat) ({ cls := "SourceDesk", name := "output", desc := "(I)I" } : Jvm.MethodName)) ∈ lw_t := lw_m (lw_in_3 (List.mem_of_getElem? (i := 113) (by decide +kernel))) rfl
theorem mt_3_114 : (Jvm.Cond.instanceMethod ({ cls := "SourceDesk", name := "output", desc := "(I)I" } : Jvm.MethodName)) ∈ lw_t := lw_m (lw_in_3 (List.mem_of_getElem? (i := 114) (by decide +kernel))) rfl
theorem mt_3_115 : (Jvm.Cond.selects "SourceDesk" ({ cls := "SourceDesk", name := "output", desc := "(I)I" } : Jvm.MethodName) ({ cls := "SourceDesk", name := "output", desc := "(I)I" } : Jvm.MethodName)) ∈ lw_t := lw_m (lw_in_3 (List.mem_of_getElem? (i := 115) (by decide +kernel))) rfl
theorem mt_3_116 : (Jvm.Cond.code ({ cls := "SourceDesk", name := "output", desc := "(I)I" } : Jvm.MethodName) prog_1_method_15_code (2 : Nat) (Option.some Jvm.ClassFile.FieldType.int)) ∈ lw_t := lw_m (lw_in_3 (List.mem_of_getElem? (i := 116) (by decide +kernel))) rfl
theorem mt_3_121 : (Jvm.Cond.methodLink "SourceDeskLaw" (73 : Nat) ({ cls := "SourceDesk", name := "count", desc := "(I)I" } : Jvm.MethodName)) ∈ lw_t := lw_m (lw_in_3 (List.mem_of_getElem? (i := 121) (by decide +kernel))) rfl
theorem mt_3_122 : (Jvm.Cond.instanceMethod ({ cls := "SourceDesk", name := "count", desc := "(I)I" } : Jvm.MethodName)) ∈ lw_t := lw_m (lw_in_3 (List.mem_of_getElem? (i := 122) (by decide +kernel))) rfl
theorem mt_3_123 : (Jvm.Cond.selects "SourceDesk" ({ cls := "SourceDesk", name := "count", desc := "(I)I" } : Jvm.MethodName) ({ cls := "SourceDesk", name := "count", desc := "(I)I" } : Jvm.MethodName)) ∈ lw_t := lw_m (lw_in_3 (List.mem_of_getElem? (i := 123) (by decide +kernel))) rfl
theorem mt_3_124 : (Jvm.Cond.code ({ cls := "SourceDesk", name := "count", desc := "(I)I" } : Jvm.MethodName) prog_1_method_16_code (2 : Nat) (Option.some Jvm.ClassFile.FieldType.int)) ∈ lw_t := lw_m (lw_in_3 (List.mem_of_getElem? (i := 124) (by decide +kernel))) rfl
theorem mt_3_142 : (Jvm.Cond.classLink "SourceDeskLaw" (10 : Nat) "SourceDeskModel") ∈ lw_t := lw_m (lw_in_3 (List.mem_of_getElem? (i := 142) (by decide +kernel))) rfl
theorem mt_3_143 : (Jvm.Cond.instantiable "SourceDeskModel" (28 : Nat)) ∈ lw_t := lw_m (lw_in_3 (List.mem_of_getElem? (i := 143) (by decide +kernel))) rfl
theorem mt_3_144 : (Jvm.Cond.methodLink "SourceDeskLaw" (12 : Nat) ({ cls := "SourceDeskModel", name := "<init>", desc := "()V" } : Jvm.MethodName)) ∈ lw_t := lw_m (lw_in_3 (List.mem_of_getElem? (i := 144) (by decide +kernel))) rfl
theorem mt_3_145 : (Jvm.Cond.instanceMethod ({ cls := "SourceDeskModel", name := "<init>", desc := "()V" } : Jvm.MethodName)) ∈ lw_t := lw_m (lw_in_3 (List.mem_of_getElem? (i := 145) (by decide +kernel))) rfl
theorem mt_3_146 : (Jvm.Cond.code ({ cls := "SourceDeskModel", name := "<init>", desc := "()V" } : Jvm.MethodName) prog_10_method_1_code (1 : Nat) (Option.none : Option Jvm.ClassFile.FieldType)) ∈ lw_t := lw_m (lw_in_3 (List.mem_of_getElem? (i := 146) (by decide +kernel))) rfl
theorem mt_3_233 : (Jvm.Cond.methodLink "SourceDeskLaw" (17 : Nat) ({ cls := "SourceDeskModel", name := "put", desc := "(II)I" } : Jvm.MethodName)) ∈ lw_t := lw_m (lw_in_3 (List.mem_of_getElem? (i := 233) (by decide +kernel))) rfl
theorem mt_3_234 : (Jvm.Cond.instanceMethod ({ cls := "SourceDeskModel", name := "put", desc := "(II)I" } : Jvm.MethodName)) ∈ lw_t := lw_m (lw_in_3 (List.mem_of_getElem? (i := 234) (by decide +kernel))) rfl
theorem mt_3_235 : (Jvm.Cond.selects "SourceDeskModel" ({ cls := "SourceDeskModel", name := "put", desc := "(II)I" } : Jvm.MethodName) ({ cls := "SourceDeskModel", name := "put", desc := "(II)I" } : Jvm.MethodName)) ∈ lw_t := lw_m (lw_in_3 (List.mem_of_getElem? (i := 235) (by decide +kernel))) rfl
theorem mt_3_236 : (Jvm.Cond.code ({ cls := "SourceDeskModel", name := "put", desc := "(II)I" } : Jvm.MethodName) prog_10_method_5_code (3 : Nat) (Option.some Jvm.ClassFile.FieldType.int)) ∈ lw_t := lw_m (lw_in_3 (List.mem_of_getElem? (i := 236) (by decide +kernel))) rfl
theorem mt_4_10 : (Jvm.Cond.methodLink "SourceDeskLaw" (22 : Nat) ({ cls := "SourceDeskModel", name := "change", desc := "(III)Z" } : Jvm.MethodName)) ∈ lw_t := lw_m (lw_in_4 (List.mem_of_getElem? (i := 10) (by decide +kernel))) rfl
theorem mt_4_11 : (Jvm.Cond.methodLink "SourceDeskLaw" (27 : Nat) ({ cls := "SourceDeskModel", name := "clear", desc := "(I)I" } : Jvm.MethodName)) ∈ lw_t := lw_m (lw_in_4 (List.mem_of_getElem? (i := 11) (by decide +kernel))) rfl
theorem mt_4_12 : (Jvm.Cond.instanceMethod ({ cls := "SourceDeskModel", name := "clear", desc := "(I)I" } : Jvm.MethodName)) ∈ lw_t := lw_m (lw_in_4 (List.mem_of_getElem? (i := 12) (by decide +kernel))) rfl
theorem mt_4_13 : (Jvm.Cond.selects "SourceDeskModel" ({ cls := "SourceDeskModel", name := "clear", desc := "(I)I" } : Jvm.MethodName) ({ cls := "SourceDeskModel", name := "clear", desc := "(I)I" } : Jvm.MethodName)) ∈ lw_t := lw_m (lw_in_4 (List.mem_of_getElem? (i := 13) (by decide +kernel))) rfl
theorem mt_4_14 : (Jvm.Cond.code ({ cls := "SourceDeskModel", name := "clear", desc := "(I)I" } : Jvm.MethodName) prog_10_method_7_code (3 : Nat) (Option.some Jvm.ClassFile.FieldType.int)) ∈ lw_t := lw_m (lw_in_4 (List.mem_of_getElem? (i := 14) (by decide +kernel))) rfl
theorem mt_4_15 : (Jvm.Cond.methodLink "SourceDeskLaw" (31 : Nat) ({ cls := "SourceDeskModel", name := "code", desc := "(II)I" } : Jvm.MethodName)) ∈ lw_t := lw_m (lw_in_4 (List.mem_of_getElem? (i := 15) (by decide +kernel))) rfl
theorem mt_4_16 : (Jvm.Cond.instanceMethod ({ cls := "SourceDeskModel", name := "code", desc := "(II)I" } : Jvm.MethodName)) ∈ lw_t := lw_m (lw_in_4 (List.mem_of_getElem? (i := 16) (by decide +kernel))) rfl
theorem mt_4_17 : (Jvm.Cond.selects "SourceDeskModel" ({ cls := "SourceDeskModel", name := "code", desc := "(II)I" } : Jvm.MethodName) ({ cls := "SourceDeskModel", name := "code", desc := "(II)I" } : Jvm.MethodName)) ∈ lw_t := lw_m (lw_in_4 (List.mem_of_getElem? (i := 17) (by decide +kernel))) rfl
theorem mt_4_18 : (Jvm.Cond.code ({ cls := "SourceDeskModel", name := "code", desc := "(II)I" } : Jvm.MethodName) prog_10_method_10_code (3 : Nat) (Option.some Jvm.ClassFile.FieldType.int)) ∈ lw_t := lw_m (lw_in_4 (List.mem_of_getElem? (i := 18) (by decide +kernel))) rfl
theorem mt_4_26 : (Jvm.Cond.methodLink "SourceDeskLaw" (36 : Nat) ({ cls := "SourceDeskModel", name := "verify", desc := "()I" } : Jvm.MethodName)) ∈ lw_t := lw_m (lw_in_4 (List.mem_of_getElem? (i := 26) (by decide +kernel))) rfl
theorem mt_4_34 : (Jvm.Cond.methodLink "SourceDeskLaw" (40 : Nat) ({ cls := "SourceDeskModel", name := "lift", desc := "()I" } : Jvm.MethodName)) ∈ lw_t := lw_m (lw_in_4 (List.mem_of_getElem? (i := 34) (by decide +kernel))) rfl
theorem mt_4_35 : (Jvm.Cond.instanceMethod ({ cls := "SourceDeskModel", name := "lift", desc := "()I" } : Jvm.MethodName)) ∈ lw_t := lw_m (lw_in_4 (List.mem_of_getElem? (i := 35) (by decide +kernel))) rfl
theorem mt_4_36 : (Jvm.Cond.selects "SourceDeskModel" ({ cls := "SourceDeskModel", name := "lift", desc := "()I" } : Jvm.MethodName) ({ cls := "SourceDeskModel", name := "lift", desc := "()I" } : Jvm.MethodName)) ∈ lw_t := lw_m (lw_in_4 (List.mem_of_getElem? (i := 36) (by decide +kernel))) rfl
theorem mt_4_37 : (Jvm.Cond.code ({ cls := "SourceDeskModel", name := "lift", desc := "()I" } : Jvm.MethodName) prog_10_method_18_code (2 : Nat) (Option.some Jvm.ClassFile.FieldType.int)) ∈ lw_t := lw_m (lw_in_4 (List.mem_of_getElem? (i := 37) (by decide +kernel))) rfl
theorem mt_4_59 : (Jvm.Cond.methodLink "SourceDeskLaw" (44 : Nat) ({ cls := "SourceDeskModel", name := "text", desc := "(I)I" } : Jvm.MethodName)) ∈ lw_t := lw_m (lw_in_4 (List.mem_of_getElem? (i := 59) (by decide +kernel))) rfl
theorem mt_4_60 : (Jvm.Cond.instanceMethod ({ cls := "SourceDeskModel", name := "text", desc := "(I)I" } : Jvm.MethodName)) ∈ lw_t := lw_m (lw_in_4 (List.mem_of_getElem? (i := 60) (by decide +kernel))) rfl
theorem mt_4_61 : (Jvm.Cond.selects "SourceDeskModel" ({ cls := "SourceDeskModel", name := "text", desc := "(I)I" } : Jvm.MethodName) ({ cls := "SourceDeskModel", name := "text", desc := "(I)I" } : Jvm.MethodName)) ∈ lw_t := lw_m (lw_in_4 (List.mem_of_getElem? (i := 61) (by decide +kernel))) rfl
theorem mt_4_62 : (Jvm.Cond.code ({ cls := "SourceDeskModel", name := "text", desc := "(I)I" } : Jvm.MethodName) prog_10_method_19_code (2 : Nat) (Option.some Jvm.ClassFile.FieldType.int)) ∈ lw_t := lw_m (lw_in_4 (List.mem_of_getElem? (i := 62) (by decide +kernel))) rfl
theorem mt_4_63 : (Jvm.Cond.methodLink "SourceDeskLaw" (48 : Nat) ({ cls := "SourceDeskModel", name := "where", desc := "()I" } : Jvm.MethodName)) ∈ lw_t := lw_m (lw_in_4 (List.mem_of_getElem? (i := 63) (by decide +kernel))) rfl
theorem mt_4_64 : (Jvm.Cond.instanceMethod ({ cls := "SourceDeskModel", name := "where", desc := "()I" } : Jvm.MethodName)) ∈ lw_t := lw_m (lw_in_4 (List.mem_of_getElem? (i := 64) (by decide +kernel))) rfl
theorem mt_4_65 : (Jvm.Cond.selects "SourceDeskModel" ({ cls := "SourceDeskModel", name := "where", desc := "()I" } : Jvm.MethodName) ({ cls := "SourceDeskModel", name := "where", desc := "()I" } : Jvm.MethodName)) ∈ lw_t := lw_m (lw_in_4 (List.mem_of_getElem? (i := 65) (by decide +kernel))) rfl
theorem mt_4_66 : (Jvm.Cond.code ({ cls := "SourceDeskModel", name := "where", desc := "()I" } : Jvm.MethodName) prog_10_method_20_code (1 : Nat) (Option.some Jvm.ClassFile.FieldType.int)) ∈ lw_t := lw_m (lw_in_4 (List.mem_of_getElem? (i := 66) (by decide +kernel))) rfl
theorem mt_4_67 : (Jvm.Cond.methodLink "SourceDeskLaw" (52 : Nat) ({ cls := "SourceDeskModel", name := "letter", desc := "(I)I" } : Jvm.MethodName)) ∈ lw_t := lw_m (lw_in_4 (List.mem_of_getElem? (i := 67) (by decide +kernel))) rfl
theorem mt_4_68 : (Jvm.Cond.instanceMethod ({ cls := "SourceDeskModel", name := "letter", desc := "(I)I" } : Jvm.MethodName)) ∈ lw_t := lw_m (lw_in_4 (List.mem_of_getElem? (i := 68) (by decide +kernel))) rfl
theorem mt_4_69 : (Jvm.Cond.selects "SourceDeskModel" ({ cls := "SourceDeskModel", name := "letter", desc := "(I)I" } : Jvm.MethodName) ({ cls := "SourceDeskModel", name := "letter", desc := "(I)I" } : Jvm.MethodName)) ∈ lw_t := lw_m (lw_in_4 (List.mem_of_getElem? (i := 69) (by decide +kernel))) rfl
theorem mt_4_70 : (Jvm.Cond.code ({ cls := "SourceDeskModel", name := "letter", desc := "(I)I" } : Jvm.MethodName) prog_10_method_21_code (2 : Nat) (Option.some Jvm.ClassFile.FieldType.int)) ∈ lw_t := lw_m (lw_in_4 (List.mem_of_getElem? (i := 70) (by decide +kernel))) rfl
theorem mt_4_71 : (Jvm.Cond.methodLink "SourceDeskLaw" (56 : Nat) ({ cls := "SourceDeskModel", name := "copy", desc := "()I" } : Jvm.MethodName)) ∈ lw_t := lw_m (lw_in_4 (List.mem_of_getElem? (i := 71) (by decide +kernel))) rfl
theorem mt_4_72 : (Jvm.Cond.instanceMethod ({ cls := "SourceDeskModel", name := "copy", desc := "()I" } : Jvm.MethodName)) ∈ lw_t := lw_m (lw_in_4 (List.mem_of_getElem? (i := 72) (by decide +kernel))) rfl
theorem mt_4_73 : (Jvm.Cond.selects "SourceDeskModel" ({ cls := "SourceDeskModel", name := "copy", desc := "()I" } : Jvm.MethodName) ({ cls := "SourceDeskModel", name := "copy", desc := "()I" } : Jvm.MethodName)) ∈ lw_t := lw_m (lw_in_4 (List.mem_of_getElem? (i := 73) (by decide +kernel))) rfl
theorem mt_4_74 : (Jvm.Cond.code ({ cls := "SourceDeskModel", name := "copy", desc := "()I" } : Jvm.MethodName) prog_10_method_22_code (2 : Nat) (Option.some Jvm.ClassFile.FieldType.int)) ∈ lw_t := lw_m (lw_in_4 (List.mem_of_getElem? (i := 74) (by decide +kernel))) rfl
theorem mt_4_75 : (Jvm.Cond.methodLink "SourceDeskLaw" (60 : Nat) ({ cls := "SourceDeskModel", name := "read", desc := "()I" } : Jvm.MethodName)) ∈ lw_t := lw_m (lw_in_4 (List.mem_of_getElem? (i := 75) (by decide +kernel))) rfl
theorem mt_4_76 : (Jvm.Cond.instanceMethod ({ cls := "SourceDeskModel", name := "read", desc := "()I" } : Jvm.MethodName)) ∈ lw_t := lw_m (lw_in_4 (List.mem_of_getElem? (i := 76) (by decide +kernel))) rfl
theorem mt_4_77 : (Jvm.Cond.selects "SourceDeskModel" ({ cls := "SourceDeskModel", name := "read", desc := "()I" } : Jvm.MethodName) ({ cls := "SourceDeskModel", name := "read", desc := "()I" } : Jvm.MethodName)) ∈ lw_t := lw_m (lw_in_4 (List.mem_of_getElem? (i := 77) (by decide +kernel))) rfl
theorem mt_4_78 : (Jvm.Cond.code ({ cls := "SourceDeskModel", name := "read", desc := "()I" } : Jvm.MethodName) prog_10_method_33_code (4 : Nat) (Option.some Jvm.ClassFile.FieldType.int)) ∈ lw_t := lw_m (lw_in_4 (List.mem_of_getElem? (i := 78) (by decide +kernel))) rfl
theorem mt_4_117 : (Jvm.Cond.methodLink "SourceDeskLaw" (64 : Nat) ({ cls := "SourceDeskModel", name := "run", desc := "(II)I" } : Jvm.MethodName)) ∈ lw_t := lw_m (lw_in_4 (List.mem_of_getElem? (i := 117) (by decide +kernel))) rfl
theorem mt_4_118 : (Jvm.Cond.instanceMethod ({ cls := "SourceDeskModel", name := "run", desc := "(II)I" } : Jvm.MethodName)) ∈ lw_t := lw_m (lw_in_4 (List.mem_of_getElem? (i := 118) (by decide +kernel))) rfl
theorem mt_4_119 : (Jvm.Cond.selects "SourceDeskModel" ({ cls := "SourceDeskModel", name := "run", desc := "(II)I" } : Jvm.MethodName) ({ cls := "SourceDeskModel", name := "run", desc := "(II)I" } : Jvm.MethodName)) ∈ lw_t := lw_m (lw_in_4 (List.mem_of_getElem? (i := 119) (by decide +kernel))) rfl
theorem mt_4_120 : (Jvm.Cond.code ({ cls := "SourceDeskModel", name := "run", desc := "(II)I" } : Jvm.MethodName) prog_10_method_39_code (8 : Nat) (Option.some Jvm.ClassFile.FieldType.int)) ∈ lw_t := lw_m (lw_in_4 (List.mem_of_getElem? (i := 120) (by decide +kernel))) rfl
theorem mt_4_140 : (Jvm.Cond.methodLink "SourceDeskLaw" (68 : Nat) ({ cls := "SourceDeskModel", name := "walk", desc := "(II)I" } : Jvm.MethodName)) ∈ lw_t := lw_m (lw_in_4 (List.mem_of_getElem? (i := 140) (by decide +kernel))) rfl
theorem mt_4_141 : (Jvm.Cond.instanceMethod ({ cls := "SourceDeskModel", name := "walk", desc := "(II)I" } : Jvm.MethodName)) ∈ lw_t := lw_m (lw_in_4 (List.mem_of_getElem? (i := 141) (by decide +kernel))) rfl
theorem mt_4_142 : (Jvm.Cond.selects "SourceDeskModel" ({ cls := "SourceDeskModel", name := "walk", desc := "(II)I" } : Jvm.MethodName) ({ cls := "SourceDeskModel", name := "walk", desc := "(II)I" } : Jvm.MethodName)) ∈ lw_t := lw_m (lw_in_4 (List.mem_of_getElem? (i := 142) (by decide +kernel))) rfl
theorem mt_4_143 : (Jvm.Cond.code ({ cls := "SourceDeskModel", name := "walk", desc := "(II)I" } : Jvm.MethodName) prog_10_method_42_code (7 : Nat) (Option.some Jvm.ClassFile.FieldType.int)) ∈ lw_t := lw_m (lw_in_4 (List.mem_of_getElem? (i := 143) (by decide +kernel))) rfl
theorem mt_4_152 : (Jvm.Cond.methodLink "SourceDeskLaw" (72 : Nat) ({ cls := "SourceDeskModel", name := "output", desc := "(I)I" } : Jvm.MethodName)) ∈ lw_t := lw_m (lw_in_4 (List.mem_of_getElem? (i := 152) (by decide +kernel))) rfl
theorem mt_4_153 : (Jvm.Cond.instanceMethod ({ cls := "SourceDeskModel", name := "output", desc := "(I)I" } : Jvm.MethodName)) ∈ lw_t := lw_m (lw_in_4 (List.mem_of_getElem? (i := 153) (by decide +kernel))) rfl
theorem mt_4_154 : (Jvm.Cond.selects "SourceDeskModel" ({ cls := "SourceDeskModel", name := "output", desc := "(I)I" } : Jvm.MethodName) ({ cls := "SourceDeskModel", name := "output", desc := "(I)I" } : Jvm.MethodName)) ∈ lw_t := lw_m (lw_in_4 (List.mem_of_getElem? (i := 154) (by decide +kernel))) rfl
theorem mt_4_155 : (Jvm.Cond.code ({ cls := "SourceDeskModel", name := "output", desc := "(I)I" } : Jvm.MethodName) prog_10_method_43_code (2 : Nat) (Option.some Jvm.ClassFile.FieldType.int)) ∈ lw_t := lw_m (lw_in_4 (List.mem_of_getElem? (i := 155) (by decide +kernel))) rfl
theorem mt_4_156 : (Jvm.Cond.methodLink "SourceDeskLaw" (76 : Nat) ({ cls := "SourceDeskModel", name := "count", desc := "(I)I" } : Jvm.MethodName)) ∈ lw_t := lw_m (lw_in_4 (List.mem_of_getElem? (i := 156) (by decide +kernel))) rfl
theorem mt_4_157 : (Jvm.Cond.instanceMethod ({ cls := "SourceDeskModel", name := "count", desc := "(I)I" } : Jvm.MethodName)) ∈ lw_t := lw_m (lw_in_4 (List.mem_of_getElem? (i := 157) (by decide +kernel))) rfl
theorem mt_4_158 : (Jvm.Cond.selects "SourceDeskModel" ({ cls := "SourceDeskModel", name := "count", desc := "(I)I" } : Jvm.MethodName) ({ cls := "SourceDeskModel", name := "count", desc := "(I)I" } : Jvm.MethodName)) ∈ lw_t := lw_m (lw_in_4 (List.mem_of_getElem? (i := 158) (by decide +kernel))) rfl
theorem mt_4_159 : (Jvm.Cond.code ({ cls := "SourceDeskModel", name := "count", desc := "(I)I" } : Jvm.MethodName) prog_10_method_45_code (2 : Nat) (Option.some Jvm.ClassFile.FieldType.int)) ∈ lw_t := lw_m (lw_in_4 (List.mem_of_getElem? (i := 159) (by decide +kernel))) rfl
theorem d_Law_law_0 : decode code 0 = .ok (.new 7, 3) := by decide +kernel
theorem d_Law_law_3 : decode code 3 = .ok (.dup, 1) := by decide +kernel
theorem d_Law_law_4 : decode code 4 = .ok (.invokespecial 9, 3) := by decide +kernel
theorem d_Law_law_7 : decode code 7 = .ok (.astore_n 1, 1) := by decide +kernel
theorem d_Law_law_8 : decode code 8 = .ok (.new 10, 3) := by decide +kernel
theorem d_Law_law_11 : decode code 11 = .ok (.dup, 1) := by decide +kernel
theorem d_Law_law_12 : decode code 12 = .ok (.invokespecial 12, 3) := by decide +kernel
theorem d_Law_law_15 : decode code 15 = .ok (.astore_n 2, 1) := by decide +kernel
theorem d_Law_law_16 : decode code 16 = .ok (.iconst 0, 1) := by decide +kernel
theorem d_Law_law_17 : decode code 17 = .ok (.istore_n 3, 1) := by decide +kernel
theorem d_Law_law_18 : decode code 18 = .ok (.iload_n 3, 1) := by decide +kernel
theorem d_Law_law_19 : decode code 19 = .ok (.aload_n 0, 1) := by decide +kernel
theorem d_Law_law_20 : decode code 20 = .ok (.arraylength, 1) := by decide +kernel
theorem d_Law_law_21 : decode code 21 = .ok (.iconst 4, 1) := by decide +kernel
theorem d_Law_law_22 : decode code 22 = .ok (.isub, 1) := by decide +kernel
theorem d_Law_law_23 : decode code 23 = .ok (.if_icmp .gt 446, 3) := by decide +kernel
theorem d_Law_law_26 : decode code 26 = .ok (.aload_n 0, 1) := by decide +kernel
theorem d_Law_law_27 : decode code 27 = .ok (.iload_n 3, 1) := by decide +kernel
theorem d_Law_law_28 : decode code 28 = .ok (.iaload, 1) := by decide +kernel
theorem d_Law_law_29 : decode code 29 = .ok (.bipush 15, 2) := by decide +kernel
theorem d_Law_law_31 : decode code 31 = .ok (.iand, 1) := by decide +kernel
theorem d_Law_law_32 : decode code 32 = .ok (.tableswitch 431 0 14 #[76, 109, 152, 175, 208, 221, 234, 257, 270, 293, 306, 319, 352, 385, 408], 76) := by decide +kernel
theorem d_Law_law_108 : decode code 108 = .ok (.aload_n 1, 1) := by decide +kernel
theorem d_Law_law_109 : decode code 109 = .ok (.aload_n 0, 1) := by decide +kernel
theorem d_Law_law_110 : decode code 110 = .ok (.iload_n 3, 1) := by decide +kernel
theorem d_Law_law_111 : decode code 111 = .ok (.iconst 1, 1) := by decide +kernel
theorem d_Law_law_112 : decode code 112 = .ok (.iadd, 1) := by decide +kernel
theorem d_Law_law_113 : decode code 113 = .ok (.iaload, 1) := by decide +kernel
theorem d_Law_law_114 : decode code 114 = .ok (.aload_n 0, 1) := by decide +kernel
theorem d_Law_law_115 : decode code 115 = .ok (.iload_n 3, 1) := by decide +kernel
theorem d_Law_law_116 : decode code 116 = .ok (.iconst 2, 1) := by decide +kernel
theorem d_Law_law_117 : decode code 117 = .ok (.iadd, 1) := by decide +kernel
theorem d_Law_law_118 : decode code 118 = .ok (.iaload, 1) := by decide +kernel
theorem d_Law_law_119 : decode code 119 = .ok (.invokevirtual 13, 3) := by decide +kernel
theorem d_Law_law_122 : decode code 122 = .ok (.aload_n 2, 1) := by decide +kernel
theorem d_Law_law_123 : decode code 123 = .ok (.aload_n 0, 1) := by decide +kernel
theorem d_Law_law_124 : decode code 124 = .ok (.iload_n 3, 1) := by decide +kernel
theorem d_Law_law_125 : decode code 125 = .ok (.iconst 1, 1) := by decide +kernel
theorem d_Law_law_126 : decode code 126 = .ok (.iadd, 1) := by decide +kernel
theorem d_Law_law_127 : decode code 127 = .ok (.iaload, 1) := by decide +kernel
theorem d_Law_law_128 : decode code 128 = .ok (.aload_n 0, 1) := by decide +kernel
theorem d_Law_law_129 : decode code 129 = .ok (.iload_n 3, 1) := by decide +kernel
theorem d_Law_law_130 : decode code 130 = .ok (.iconst 2, 1) := by decide +kernel
theorem d_Law_law_131 : decode code 131 = .ok (.iadd, 1) := by decide +kernel
theorem d_Law_law_132 : decode code 132 = .ok (.iaload, 1) := by decide +kernel
theorem d_Law_law_133 : decode code 133 = .ok (.invokevirtual 17, 3) := by decide +kernel
theorem d_Law_law_136 : decode code 136 = .ok (.if_icmp .eq 327, 3) := by decide +kernel
theorem d_Law_law_139 : decode code 139 = .ok (.iconst 0, 1) := by decide +kernel
theorem d_Law_law_140 : decode code 140 = .ok (.ireturn, 1) := by decide +kernel
theorem d_Law_law_141 : decode code 141 = .ok (.aload_n 1, 1) := by decide +kernel
theorem d_Law_law_142 : decode code 142 = .ok (.aload_n 0, 1) := by decide +kernel
theorem d_Law_law_143 : decode code 143 = .ok (.iload_n 3, 1) := by decide +kernel
theorem d_Law_law_144 : decode code 144 = .ok (.iconst 1, 1) := by decide +kernel
theorem d_Law_law_145 : decode code 145 = .ok (.iadd, 1) := by decide +kernel
theorem d_Law_law_146 : decode code 146 = .ok (.iaload, 1) := by decide +kernel
theorem d_Law_law_147 : decode code 147 = .ok (.aload_n 0, 1) := by decide +kernel
theorem d_Law_law_148 : decode code 148 = .ok (.iload_n 3, 1) := by decide +kernel
theorem d_Law_law_149 : decode code 149 = .ok (.iconst 2, 1) := by decide +kernel
theorem d_Law_law_150 : decode code 150 = .ok (.iadd, 1) := by decide +kernel
theorem d_Law_law_151 : decode code 151 = .ok (.iaload, 1) := by decide +kernel
theorem d_Law_law_152 : decode code 152 = .ok (.aload_n 0, 1) := by decide +kernel
theorem d_Law_law_153 : decode code 153 = .ok (.iload_n 3, 1) := by decide +kernel
theorem d_Law_law_154 : decode code 154 = .ok (.iconst 3, 1) := by decide +kernel
theorem d_Law_law_155 : decode code 155 = .ok (.iadd, 1) := by decide +kernel
theorem d_Law_law_156 : decode code 156 = .ok (.iaload, 1) := by decide +kernel
theorem d_Law_law_157 : decode code 157 = .ok (.invokevirtual 18, 3) := by decide +kernel
theorem d_Law_law_160 : decode code 160 = .ok (.aload_n 2, 1) := by decide +kernel
theorem d_Law_law_161 : decode code 161 = .ok (.aload_n 0, 1) := by decide +kernel
theorem d_Law_law_162 : decode code 162 = .ok (.iload_n 3, 1) := by decide +kernel
theorem d_Law_law_163 : decode code 163 = .ok (.iconst 1, 1) := by decide +kernel
theorem d_Law_law_164 : decode code 164 = .ok (.iadd, 1) := by decide +kernel
theorem d_Law_law_165 : decode code 165 = .ok (.iaload, 1) := by decide +kernel
theorem d_Law_law_166 : decode code 166 = .ok (.aload_n 0, 1) := by decide +kernel
theorem d_Law_law_167 : decode code 167 = .ok (.iload_n 3, 1) := by decide +kernel
theorem d_Law_law_168 : decode code 168 = .ok (.iconst 2, 1) := by decide +kernel
theorem d_Law_law_169 : decode code 169 = .ok (.iadd, 1) := by decide +kernel
theorem d_Law_law_170 : decode code 170 = .ok (.iaload, 1) := by decide +kernel
theorem d_Law_law_171 : decode code 171 = .ok (.aload_n 0, 1) := by decide +kernel
theorem d_Law_law_172 : decode code 172 = .ok (.iload_n 3, 1) := by decide +kernel
theorem d_Law_law_173 : decode code 173 = .ok (.iconst 3, 1) := by decide +kernel
theorem d_Law_law_174 : decode code 174 = .ok (.iadd, 1) := by decide +kernel
theorem d_Law_law_175 : decode code 175 = .ok (.iaload, 1) := by decide +kernel
theorem d_Law_law_176 : decode code 176 = .ok (.invokevirtual 22, 3) := by decide +kernel
theorem d_Law_law_179 : decode code 179 = .ok (.if_icmp .eq 284, 3) := by decide +kernel
theorem d_Law_law_182 : decode code 182 = .ok (.iconst 0, 1) := by decide +kernel
theorem d_Law_law_183 : decode code 183 = .ok (.ireturn, 1) := by decide +kernel
theorem d_Law_law_184 : decode code 184 = .ok (.aload_n 1, 1) := by decide +kernel
theorem d_Law_law_185 : decode code 185 = .ok (.aload_n 0, 1) := by decide +kernel
theorem d_Law_law_186 : decode code 186 = .ok (.iload_n 3, 1) := by decide +kernel
theorem d_Law_law_187 : decode code 187 = .ok (.iconst 1, 1) := by decide +kernel
theorem d_Law_law_188 : decode code 188 = .ok (.iadd, 1) := by decide +kernel
theorem d_Law_law_189 : decode code 189 = .ok (.iaload, 1) := by decide +kernel
theorem d_Law_law_190 : decode code 190 = .ok (.invokevirtual 23, 3) := by decide +kernel
theorem d_Law_law_193 : decode code 193 = .ok (.aload_n 2, 1) := by decide +kernel
theorem d_Law_law_194 : decode code 194 = .ok (.aload_n 0, 1) := by decide +kernel
theorem d_Law_law_195 : decode code 195 = .ok (.iload_n 3, 1) := by decide +kernel
theorem d_Law_law_196 : decode code 196 = .ok (.iconst 1, 1) := by decide +kernel
theorem d_Law_law_197 : decode code 197 = .ok (.iadd, 1) := by decide +kernel
theorem d_Law_law_198 : decode code 198 = .ok (.iaload, 1) := by decide +kernel
theorem d_Law_law_199 : decode code 199 = .ok (.invokevirtual 27, 3) := by decide +kernel
theorem d_Law_law_202 : decode code 202 = .ok (.if_icmp .eq 261, 3) := by decide +kernel
theorem d_Law_law_205 : decode code 205 = .ok (.iconst 0, 1) := by decide +kernel
theorem d_Law_law_206 : decode code 206 = .ok (.ireturn, 1) := by decide +kernel
theorem d_Law_law_207 : decode code 207 = .ok (.aload_n 1, 1) := by decide +kernel
theorem d_Law_law_208 : decode code 208 = .ok (.aload_n 0, 1) := by decide +kernel
theorem d_Law_law_209 : decode code 209 = .ok (.iload_n 3, 1) := by decide +kernel
theorem d_Law_law_210 : decode code 210 = .ok (.iconst 1, 1) := by decide +kernel
theorem d_Law_law_211 : decode code 211 = .ok (.iadd, 1) := by decide +kernel
theorem d_Law_law_212 : decode code 212 = .ok (.iaload, 1) := by decide +kernel
theorem d_Law_law_213 : decode code 213 = .ok (.aload_n 0, 1) := by decide +kernel
theorem d_Law_law_214 : decode code 214 = .ok (.iload_n 3, 1) := by decide +kernel
theorem d_Law_law_215 : decode code 215 = .ok (.iconst 2, 1) := by decide +kernel
theorem d_Law_law_216 : decode code 216 = .ok (.iadd, 1) := by decide +kernel
theorem d_Law_law_217 : decode code 217 = .ok (.iaload, 1) := by decide +kernel
theorem d_Law_law_218 : decode code 218 = .ok (.invokevirtual 28, 3) := by decide +kernel
theorem d_Law_law_221 : decode code 221 = .ok (.aload_n 2, 1) := by decide +kernel
theorem d_Law_law_222 : decode code 222 = .ok (.aload_n 0, 1) := by decide +kernel
theorem d_Law_law_223 : decode code 223 = .ok (.iload_n 3, 1) := by decide +kernel
theorem d_Law_law_224 : decode code 224 = .ok (.iconst 1, 1) := by decide +kernel
theorem d_Law_law_225 : decode code 225 = .ok (.iadd, 1) := by decide +kernel
theorem d_Law_law_226 : decode code 226 = .ok (.iaload, 1) := by decide +kernel
theorem d_Law_law_227 : decode code 227 = .ok (.aload_n 0, 1) := by decide +kernel
theorem d_Law_law_228 : decode code 228 = .ok (.iload_n 3, 1) := by decide +kernel
theorem d_Law_law_229 : decode code 229 = .ok (.iconst 2, 1) := by decide +kernel
theorem d_Law_law_230 : decode code 230 = .ok (.iadd, 1) := by decide +kernel
theorem d_Law_law_231 : decode code 231 = .ok (.iaload, 1) := by decide +kernel
theorem d_Law_law_232 : decode code 232 = .ok (.invokevirtual 31, 3) := by decide +kernel
theorem d_Law_law_235 : decode code 235 = .ok (.if_icmp .eq 228, 3) := by decide +kernel
theorem d_Law_law_238 : decode code 238 = .ok (.iconst 0, 1) := by decide +kernel
theorem d_Law_law_239 : decode code 239 = .ok (.ireturn, 1) := by decide +kernel
theorem d_Law_law_240 : decode code 240 = .ok (.aload_n 1, 1) := by decide +kernel
theorem d_Law_law_241 : decode code 241 = .ok (.invokevirtual 32, 3) := by decide +kernel
theorem d_Law_law_244 : decode code 244 = .ok (.aload_n 2, 1) := by decide +kernel
theorem d_Law_law_245 : decode code 245 = .ok (.invokevirtual 36, 3) := by decide +kernel
theorem d_Law_law_248 : decode code 248 = .ok (.if_icmp .eq 215, 3) := by decide +kernel
theorem d_Law_law_251 : decode code 251 = .ok (.iconst 0, 1) := by decide +kernel
theorem d_Law_law_252 : decode code 252 = .ok (.ireturn, 1) := by decide +kernel
theorem d_Law_law_253 : decode code 253 = .ok (.aload_n 1, 1) := by decide +kernel
theorem d_Law_law_254 : decode code 254 = .ok (.invokevirtual 37, 3) := by decide +kernel
theorem d_Law_law_257 : decode code 257 = .ok (.aload_n 2, 1) := by decide +kernel
theorem d_Law_law_258 : decode code 258 = .ok (.invokevirtual 40, 3) := by decide +kernel
theorem d_Law_law_261 : decode code 261 = .ok (.if_icmp .eq 202, 3) := by decide +kernel
theorem d_Law_law_264 : decode code 264 = .ok (.iconst 0, 1) := by decide +kernel
theorem d_Law_law_265 : decode code 265 = .ok (.ireturn, 1) := by decide +kernel
theorem d_Law_law_266 : decode code 266 = .ok (.aload_n 1, 1) := by decide +kernel
theorem d_Law_law_267 : decode code 267 = .ok (.aload_n 0, 1) := by decide +kernel
theorem d_Law_law_268 : decode code 268 = .ok (.iload_n 3, 1) := by decide +kernel
theorem d_Law_law_269 : decode code 269 = .ok (.iconst 1, 1) := by decide +kernel
theorem d_Law_law_270 : decode code 270 = .ok (.iadd, 1) := by decide +kernel
theorem d_Law_law_271 : decode code 271 = .ok (.iaload, 1) := by decide +kernel
theorem d_Law_law_272 : decode code 272 = .ok (.invokevirtual 41, 3) := by decide +kernel
theorem d_Law_law_275 : decode code 275 = .ok (.aload_n 2, 1) := by decide +kernel
theorem d_Law_law_276 : decode code 276 = .ok (.aload_n 0, 1) := by decide +kernel
theorem d_Law_law_277 : decode code 277 = .ok (.iload_n 3, 1) := by decide +kernel
theorem d_Law_law_278 : decode code 278 = .ok (.iconst 1, 1) := by decide +kernel
theorem d_Law_law_279 : decode code 279 = .ok (.iadd, 1) := by decide +kernel
theorem d_Law_law_280 : decode code 280 = .ok (.iaload, 1) := by decide +kernel
theorem d_Law_law_281 : decode code 281 = .ok (.invokevirtual 44, 3) := by decide +kernel
theorem d_Law_law_284 : decode code 284 = .ok (.if_icmp .eq 179, 3) := by decide +kernel
theorem d_Law_law_287 : decode code 287 = .ok (.iconst 0, 1) := by decide +kernel
theorem d_Law_law_288 : decode code 288 = .ok (.ireturn, 1) := by decide +kernel
theorem d_Law_law_289 : decode code 289 = .ok (.aload_n 1, 1) := by decide +kernel
theorem d_Law_law_290 : decode code 290 = .ok (.invokevirtual 45, 3) := by decide +kernel
theorem d_Law_law_293 : decode code 293 = .ok (.aload_n 2, 1) := by decide +kernel
theorem d_Law_law_294 : decode code 294 = .ok (.invokevirtual 48, 3) := by decide +kernel
theorem d_Law_law_297 : decode code 297 = .ok (.if_icmp .eq 166, 3) := by decide +kernel
theorem d_Law_law_300 : decode code 300 = .ok (.iconst 0, 1) := by decide +kernel
theorem d_Law_law_301 : decode code 301 = .ok (.ireturn, 1) := by decide +kernel
theorem d_Law_law_302 : decode code 302 = .ok (.aload_n 1, 1) := by decide +kernel
theorem d_Law_law_303 : decode code 303 = .ok (.aload_n 0, 1) := by decide +kernel
theorem d_Law_law_304 : decode code 304 = .ok (.iload_n 3, 1) := by decide +kernel
theorem d_Law_law_305 : decode code 305 = .ok (.iconst 1, 1) := by decide +kernel
theorem d_Law_law_306 : decode code 306 = .ok (.iadd, 1) := by decide +kernel
theorem d_Law_law_307 : decode code 307 = .ok (.iaload, 1) := by decide +kernel
theorem d_Law_law_308 : decode code 308 = .ok (.invokevirtual 49, 3) := by decide +kernel
theorem d_Law_law_311 : decode code 311 = .ok (.aload_n 2, 1) := by decide +kernel
theorem d_Law_law_312 : decode code 312 = .ok (.aload_n 0, 1) := by decide +kernel
theorem d_Law_law_313 : decode code 313 = .ok (.iload_n 3, 1) := by decide +kernel
theorem d_Law_law_314 : decode code 314 = .ok (.iconst 1, 1) := by decide +kernel
theorem d_Law_law_315 : decode code 315 = .ok (.iadd, 1) := by decide +kernel
theorem d_Law_law_316 : decode code 316 = .ok (.iaload, 1) := by decide +kernel
theorem d_Law_law_317 : decode code 317 = .ok (.invokevirtual 52, 3) := by decide +kernel
theorem d_Law_law_320 : decode code 320 = .ok (.if_icmp .eq 143, 3) := by decide +kernel
theorem d_Law_law_323 : decode code 323 = .ok (.iconst 0, 1) := by decide +kernel
theorem d_Law_law_324 : decode code 324 = .ok (.ireturn, 1) := by decide +kernel
theorem d_Law_law_325 : decode code 325 = .ok (.aload_n 1, 1) := by decide +kernel
theorem d_Law_law_326 : decode code 326 = .ok (.invokevirtual 53, 3) := by decide +kernel
theorem d_Law_law_329 : decode code 329 = .ok (.aload_n 2, 1) := by decide +kernel
theorem d_Law_law_330 : decode code 330 = .ok (.invokevirtual 56, 3) := by decide +kernel
theorem d_Law_law_333 : decode code 333 = .ok (.if_icmp .eq 130, 3) := by decide +kernel
theorem d_Law_law_336 : decode code 336 = .ok (.iconst 0, 1) := by decide +kernel
theorem d_Law_law_337 : decode code 337 = .ok (.ireturn, 1) := by decide +kernel
theorem d_Law_law_338 : decode code 338 = .ok (.aload_n 1, 1) := by decide +kernel
theorem d_Law_law_339 : decode code 339 = .ok (.invokevirtual 57, 3) := by decide +kernel
theorem d_Law_law_342 : decode code 342 = .ok (.aload_n 2, 1) := by decide +kernel
theorem d_Law_law_343 : decode code 343 = .ok (.invokevirtual 60, 3) := by decide +kernel
theorem d_Law_law_346 : decode code 346 = .ok (.if_icmp .eq 117, 3) := by decide +kernel
theorem d_Law_law_349 : decode code 349 = .ok (.iconst 0, 1) := by decide +kernel
theorem d_Law_law_350 : decode code 350 = .ok (.ireturn, 1) := by decide +kernel
theorem d_Law_law_351 : decode code 351 = .ok (.aload_n 1, 1) := by decide +kernel
theorem d_Law_law_352 : decode code 352 = .ok (.aload_n 0, 1) := by decide +kernel
theorem d_Law_law_353 : decode code 353 = .ok (.iload_n 3, 1) := by decide +kernel
theorem d_Law_law_354 : decode code 354 = .ok (.iconst 1, 1) := by decide +kernel
theorem d_Law_law_355 : decode code 355 = .ok (.iadd, 1) := by decide +kernel
theorem d_Law_law_356 : decode code 356 = .ok (.iaload, 1) := by decide +kernel
theorem d_Law_law_357 : decode code 357 = .ok (.aload_n 0, 1) := by decide +kernel
theorem d_Law_law_358 : decode code 358 = .ok (.iload_n 3, 1) := by decide +kernel
theorem d_Law_law_359 : decode code 359 = .ok (.iconst 2, 1) := by decide +kernel
theorem d_Law_law_360 : decode code 360 = .ok (.iadd, 1) := by decide +kernel
theorem d_Law_law_361 : decode code 361 = .ok (.iaload, 1) := by decide +kernel
theorem d_Law_law_362 : decode code 362 = .ok (.invokevirtual 61, 3) := by decide +kernel
theorem d_Law_law_365 : decode code 365 = .ok (.aload_n 2, 1) := by decide +kernel
theorem d_Law_law_366 : decode code 366 = .ok (.aload_n 0, 1) := by decide +kernel
theorem d_Law_law_367 : decode code 367 = .ok (.iload_n 3, 1) := by decide +kernel
theorem d_Law_law_368 : decode code 368 = .ok (.iconst 1, 1) := by decide +kernel
theorem d_Law_law_369 : decode code 369 = .ok (.iadd, 1) := by decide +kernel
theorem d_Law_law_370 : decode code 370 = .ok (.iaload, 1) := by decide +kernel
theorem d_Law_law_371 : decode code 371 = .ok (.aload_n 0, 1) := by decide +kernel
theorem d_Law_law_372 : decode code 372 = .ok (.iload_n 3, 1) := by decide +kernel
theorem d_Law_law_373 : decode code 373 = .ok (.iconst 2, 1) := by decide +kernel
theorem d_Law_law_374 : decode code 374 = .ok (.iadd, 1) := by decide +kernel
theorem d_Law_law_375 : decode code 375 = .ok (.iaload, 1) := by decide +kernel
theorem d_Law_law_376 : decode code 376 = .ok (.invokevirtual 64, 3) := by decide +kernel
theorem d_Law_law_379 : decode code 379 = .ok (.if_icmp .eq 84, 3) := by decide +kernel
theorem d_Law_law_382 : decode code 382 = .ok (.iconst 0, 1) := by decide +kernel
theorem d_Law_law_383 : decode code 383 = .ok (.ireturn, 1) := by decide +kernel
theorem d_Law_law_384 : decode code 384 = .ok (.aload_n 1, 1) := by decide +kernel
theorem d_Law_law_385 : decode code 385 = .ok (.aload_n 0, 1) := by decide +kernel
theorem d_Law_law_386 : decode code 386 = .ok (.iload_n 3, 1) := by decide +kernel
theorem d_Law_law_387 : decode code 387 = .ok (.iconst 1, 1) := by decide +kernel
theorem d_Law_law_388 : decode code 388 = .ok (.iadd, 1) := by decide +kernel
theorem d_Law_law_389 : decode code 389 = .ok (.iaload, 1) := by decide +kernel
theorem d_Law_law_390 : decode code 390 = .ok (.aload_n 0, 1) := by decide +kernel
theorem d_Law_law_391 : decode code 391 = .ok (.iload_n 3, 1) := by decide +kernel
theorem d_Law_law_392 : decode code 392 = .ok (.iconst 2, 1) := by decide +kernel
theorem d_Law_law_393 : decode code 393 = .ok (.iadd, 1) := by decide +kernel
theorem d_Law_law_394 : decode code 394 = .ok (.iaload, 1) := by decide +kernel
theorem d_Law_law_395 : decode code 395 = .ok (.invokevirtual 65, 3) := by decide +kernel
theorem d_Law_law_398 : decode code 398 = .ok (.aload_n 2, 1) := by decide +kernel
theorem d_Law_law_399 : decode code 399 = .ok (.aload_n 0, 1) := by decide +kernel
theorem d_Law_law_400 : decode code 400 = .ok (.iload_n 3, 1) := by decide +kernel
theorem d_Law_law_401 : decode code 401 = .ok (.iconst 1, 1) := by decide +kernel
theorem d_Law_law_402 : decode code 402 = .ok (.iadd, 1) := by decide +kernel
theorem d_Law_law_403 : decode code 403 = .ok (.iaload, 1) := by decide +kernel
theorem d_Law_law_404 : decode code 404 = .ok (.aload_n 0, 1) := by decide +kernel
theorem d_Law_law_405 : decode code 405 = .ok (.iload_n 3, 1) := by decide +kernel
theorem d_Law_law_406 : decode code 406 = .ok (.iconst 2, 1) := by decide +kernel
theorem d_Law_law_407 : decode code 407 = .ok (.iadd, 1) := by decide +kernel
theorem d_Law_law_408 : decode code 408 = .ok (.iaload, 1) := by decide +kernel
theorem d_Law_law_409 : decode code 409 = .ok (.invokevirtual 68, 3) := by decide +kernel
theorem d_Law_law_412 : decode code 412 = .ok (.if_icmp .eq 51, 3) := by decide +kernel
theorem d_Law_law_415 : decode code 415 = .ok (.iconst 0, 1) := by decide +kernel
theorem d_Law_law_416 : decode code 416 = .ok (.ireturn, 1) := by decide +kernel
theorem d_Law_law_417 : decode code 417 = .ok (.aload_n 1, 1) := by decide +kernel
theorem d_Law_law_418 : decode code 418 = .ok (.aload_n 0, 1) := by decide +kernel
theorem d_Law_law_419 : decode code 419 = .ok (.iload_n 3, 1) := by decide +kernel
theorem d_Law_law_420 : decode code 420 = .ok (.iconst 1, 1) := by decide +kernel
theorem d_Law_law_421 : decode code 421 = .ok (.iadd, 1) := by decide +kernel
theorem d_Law_law_422 : decode code 422 = .ok (.iaload, 1) := by decide +kernel
theorem d_Law_law_423 : decode code 423 = .ok (.invokevirtual 69, 3) := by decide +kernel
theorem d_Law_law_426 : decode code 426 = .ok (.aload_n 2, 1) := by decide +kernel
theorem d_Law_law_427 : decode code 427 = .ok (.aload_n 0, 1) := by decide +kernel
theorem d_Law_law_428 : decode code 428 = .ok (.iload_n 3, 1) := by decide +kernel
theorem d_Law_law_429 : decode code 429 = .ok (.iconst 1, 1) := by decide +kernel
theorem d_Law_law_430 : decode code 430 = .ok (.iadd, 1) := by decide +kernel
theorem d_Law_law_431 : decode code 431 = .ok (.iaload, 1) := by decide +kernel
theorem d_Law_law_432 : decode code 432 = .ok (.invokevirtual 72, 3) := by decide +kernel
theorem d_Law_law_435 : decode code 435 = .ok (.if_icmp .eq 28, 3) := by decide +kernel
theorem d_Law_law_438 : decode code 438 = .ok (.iconst 0, 1) := by decide +kernel
theorem d_Law_law_439 : decode code 439 = .ok (.ireturn, 1) := by decide +kernel
theorem d_Law_law_440 : decode code 440 = .ok (.aload_n 1, 1) := by decide +kernel
theorem d_Law_law_441 : decode code 441 = .ok (.aload_n 0, 1) := by decide +kernel
theorem d_Law_law_442 : decode code 442 = .ok (.iload_n 3, 1) := by decide +kernel
theorem d_Law_law_443 : decode code 443 = .ok (.iconst 1, 1) := by decide +kernel
theorem d_Law_law_444 : decode code 444 = .ok (.iadd, 1) := by decide +kernel
theorem d_Law_law_445 : decode code 445 = .ok (.iaload, 1) := by decide +kernel
theorem d_Law_law_446 : decode code 446 = .ok (.invokevirtual 73, 3) := by decide +kernel
theorem d_Law_law_449 : decode code 449 = .ok (.aload_n 2, 1) := by decide +kernel
theorem d_Law_law_450 : decode code 450 = .ok (.aload_n 0, 1) := by decide +kernel
theorem d_Law_law_451 : decode code 451 = .ok (.iload_n 3, 1) := by decide +kernel
theorem d_Law_law_452 : decode code 452 = .ok (.iconst 1, 1) := by decide +kernel
theorem d_Law_law_453 : decode code 453 = .ok (.iadd, 1) := by decide +kernel
theorem d_Law_law_454 : decode code 454 = .ok (.iaload, 1) := by decide +kernel
theorem d_Law_law_455 : decode code 455 = .ok (.invokevirtual 76, 3) := by decide +kernel
theorem d_Law_law_458 : decode code 458 = .ok (.if_icmp .eq 5, 3) := by decide +kernel
theorem d_Law_law_461 : decode code 461 = .ok (.iconst 0, 1) := by decide +kernel
theorem d_Law_law_462 : decode code 462 = .ok (.ireturn, 1) := by decide +kernel
theorem d_Law_law_463 : decode code 463 = .ok (.iinc 3 4, 3) := by decide +kernel
theorem d_Law_law_466 : decode code 466 = .ok (.goto (-448), 3) := by decide +kernel
theorem d_Law_law_469 : decode code 469 = .ok (.iconst 1, 1) := by decide +kernel
theorem d_Law_law_470 : decode code 470 = .ok (.ireturn, 1) := by decide +kernel
