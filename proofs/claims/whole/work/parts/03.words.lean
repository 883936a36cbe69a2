theorem iw_2 : (Jvm.Cond.initialized "ConsolidationDesk$Holdings") ∈ kxW := List.mem_filter.mpr ⟨List.mem_append_right _ (List.mem_of_getElem? (i := 2) (by decide +kernel)), by decide +kernel⟩
theorem iw_5 : (Jvm.Cond.initialized "java/util/Arrays") ∈ kxW := List.mem_filter.mpr ⟨List.mem_append_right _ (List.mem_of_getElem? (i := 5) (by decide +kernel)), by decide +kernel⟩
theorem iw_6 : (Jvm.Cond.initialized "java/lang/Math") ∈ kxW := List.mem_filter.mpr ⟨List.mem_append_right _ (List.mem_of_getElem? (i := 6) (by decide +kernel)), by decide +kernel⟩
theorem iw_7 : (Jvm.Cond.initialized "java/lang/System") ∈ kxW := List.mem_filter.mpr ⟨List.mem_append_right _ (List.mem_of_getElem? (i := 7) (by decide +kernel)), by decide +kernel⟩
theorem iw_27 : (Jvm.Cond.constantLong "ConsolidationDesk$Holdings" (32 : Nat) (10000000000000000 : Int64)) ∈ kxW := List.mem_filter.mpr ⟨List.mem_append_right _ (List.mem_of_getElem? (i := 27) (by decide +kernel)), by decide +kernel⟩
theorem iw_28 : (Jvm.Cond.fieldLink "ConsolidationDesk$Holdings" (9 : Nat) "ConsolidationDesk$Holdings" "parts" "[I") ∈ kxW := List.mem_filter.mpr ⟨List.mem_append_right _ (List.mem_of_getElem? (i := 28) (by decide +kernel)), by decide +kernel⟩
theorem iw_29 : (Jvm.Cond.fieldLink "ConsolidationDesk$Holdings" (15 : Nat) "ConsolidationDesk$Holdings" "chainLengths" "[I") ∈ kxW := List.mem_filter.mpr ⟨List.mem_append_right _ (List.mem_of_getElem? (i := 29) (by decide +kernel)), by decide +kernel⟩
theorem iw_30 : (Jvm.Cond.fieldLink "ConsolidationDesk$Holdings" (18 : Nat) "ConsolidationDesk$Holdings" "underControl" "[Z") ∈ kxW := List.mem_filter.mpr ⟨List.mem_append_right _ (List.mem_of_getElem? (i := 30) (by decide +kernel)), by decide +kernel⟩
theorem iw_31 : (Jvm.Cond.fieldLink "ConsolidationDesk$Holdings" (22 : Nat) "ConsolidationDesk$Holdings" "shares" "[J") ∈ kxW := List.mem_filter.mpr ⟨List.mem_append_right _ (List.mem_of_getElem? (i := 31) (by decide +kernel)), by decide +kernel⟩
theorem iw_32 : (Jvm.Cond.fieldLink "ConsolidationDesk$Holdings" (26 : Nat) "ConsolidationDesk$Holdings" "chainShares" "[J") ∈ kxW := List.mem_filter.mpr ⟨List.mem_append_right _ (List.mem_of_getElem? (i := 32) (by decide +kernel)), by decide +kernel⟩
theorem iw_33 : (Jvm.Cond.fieldLink "ConsolidationDesk$Holdings" (29 : Nat) "ConsolidationDesk$Holdings" "longerChainShares" "[J") ∈ kxW := List.mem_filter.mpr ⟨List.mem_append_right _ (List.mem_of_getElem? (i := 33) (by decide +kernel)), by decide +kernel⟩
theorem iw_141 : (Jvm.Cond.methodLink "ConsolidationDesk$Holdings" (34 : Nat) ({ cls := "ConsolidationDesk$Holdings", name := "heldInAll", desc := "(I)I" } : Jvm.MethodName)) ∈ kxW := List.mem_filter.mpr ⟨List.mem_append_right _ (List.mem_of_getElem? (i := 141) (by decide +kernel)), by decide +kernel⟩
theorem iw_143 : (Jvm.Cond.instanceMethod ({ cls := "ConsolidationDesk$Holdings", name := "heldInAll", desc := "(I)I" } : Jvm.MethodName)) ∈ kxW := List.mem_filter.mpr ⟨List.mem_append_right _ (List.mem_of_getElem? (i := 143) (by decide +kernel)), by decide +kernel⟩
theorem iw_144 : (Jvm.Cond.code ({ cls := "ConsolidationDesk$Holdings", name := "heldInAll", desc := "(I)I" } : Jvm.MethodName) prog_2_method_5_code (4 : Nat) (Option.some Jvm.ClassFile.FieldType.int)) ∈ kxW := List.mem_filter.mpr ⟨List.mem_append_right _ (List.mem_of_getElem? (i := 144) (by decide +kernel)), by decide +kernel⟩
theorem iw_145 : (Jvm.Cond.methodLink "ConsolidationDesk$Holdings" (38 : Nat) ({ cls := "ConsolidationDesk$Holdings", name := "hasTooLongChain", desc := "()Z" } : Jvm.MethodName)) ∈ kxW := List.mem_filter.mpr ⟨List.mem_append_right _ (List.mem_of_getElem? (i := 145) (by decide +kernel)), by decide +kernel⟩
theorem iw_147 : (Jvm.Cond.instanceMethod ({ cls := "ConsolidationDesk$Holdings", name := "hasTooLongChain", desc := "()Z" } : Jvm.MethodName)) ∈ kxW := List.mem_filter.mpr ⟨List.mem_append_right _ (List.mem_of_getElem? (i := 147) (by decide +kernel)), by decide +kernel⟩
theorem iw_148 : (Jvm.Cond.code ({ cls := "ConsolidationDesk$Holdings", name := "hasTooLongChain", desc := "()Z" } : Jvm.MethodName) prog_2_method_6_code (3 : Nat) (Option.some Jvm.ClassFile.FieldType.boolean)) ∈ kxW := List.mem_filter.mpr ⟨List.mem_append_right _ (List.mem_of_getElem? (i := 148) (by decide +kernel)), by decide +kernel⟩
theorem iw_149 : (Jvm.Cond.methodLink "ConsolidationDesk$Holdings" (48 : Nat) ({ cls := "java/util/Arrays", name := "fill", desc := "([II)V" } : Jvm.MethodName)) ∈ kxW := List.mem_filter.mpr ⟨List.mem_append_right _ (List.mem_of_getElem? (i := 149) (by decide +kernel)), by decide +kernel⟩
theorem iw_150 : (Jvm.Cond.static ({ cls := "java/util/Arrays", name := "fill", desc := "([II)V" } : Jvm.MethodName)) ∈ kxW := List.mem_filter.mpr ⟨List.mem_append_right _ (List.mem_of_getElem? (i := 150) (by decide +kernel)), by decide +kernel⟩
theorem iw_151 : (Jvm.Cond.code ({ cls := "java/util/Arrays", name := "fill", desc := "([II)V" } : Jvm.MethodName) prog_11_method_103_code (4 : Nat) (Option.none : Option Jvm.ClassFile.FieldType)) ∈ kxW := List.mem_filter.mpr ⟨List.mem_append_right _ (List.mem_of_getElem? (i := 151) (by decide +kernel)), by decide +kernel⟩
theorem iw_152 : (Jvm.Cond.methodLink "ConsolidationDesk$Holdings" (54 : Nat) ({ cls := "ConsolidationDesk$Holdings", name := "lengthenChains", desc := "(I)I" } : Jvm.MethodName)) ∈ kxW := List.mem_filter.mpr ⟨List.mem_append_right _ (List.mem_of_getElem? (i := 152) (by decide +kernel)), by decide +kernel⟩
theorem iw_154 : (Jvm.Cond.instanceMethod ({ cls := "ConsolidationDesk$Holdings", name := "lengthenChains", desc := "(I)I" } : Jvm.MethodName)) ∈ kxW := List.mem_filter.mpr ⟨List.mem_append_right _ (List.mem_of_getElem? (i := 154) (by decide +kernel)), by decide +kernel⟩
theorem iw_155 : (Jvm.Cond.code ({ cls := "ConsolidationDesk$Holdings", name := "lengthenChains", desc := "(I)I" } : Jvm.MethodName) prog_2_method_7_code (6 : Nat) (Option.some Jvm.ClassFile.FieldType.int)) ∈ kxW := List.mem_filter.mpr ⟨List.mem_append_right _ (List.mem_of_getElem? (i := 155) (by decide +kernel)), by decide +kernel⟩
theorem iw_156 : (Jvm.Cond.methodLink "ConsolidationDesk$Holdings" (57 : Nat) ({ cls := "java/lang/Math", name := "max", desc := "(II)I" } : Jvm.MethodName)) ∈ kxW := List.mem_filter.mpr ⟨List.mem_append_right _ (List.mem_of_getElem? (i := 156) (by decide +kernel)), by decide +kernel⟩
theorem iw_157 : (Jvm.Cond.static ({ cls := "java/lang/Math", name := "max", desc := "(II)I" } : Jvm.MethodName)) ∈ kxW := List.mem_filter.mpr ⟨List.mem_append_right _ (List.mem_of_getElem? (i := 157) (by decide +kernel)), by decide +kernel⟩
theorem iw_158 : (Jvm.Cond.code ({ cls := "java/lang/Math", name := "max", desc := "(II)I" } : Jvm.MethodName) prog_7_method_65_code (2 : Nat) (Option.some Jvm.ClassFile.FieldType.int)) ∈ kxW := List.mem_filter.mpr ⟨List.mem_append_right _ (List.mem_of_getElem? (i := 158) (by decide +kernel)), by decide +kernel⟩
theorem iw_159 : (Jvm.Cond.methodLink "ConsolidationDesk$Holdings" (42 : Nat) ({ cls := "ConsolidationDesk$Holdings", name := "findControl", desc := "()V" } : Jvm.MethodName)) ∈ kxW := List.mem_filter.mpr ⟨List.mem_append_right _ (List.mem_of_getElem? (i := 159) (by decide +kernel)), by decide +kernel⟩
theorem iw_161 : (Jvm.Cond.instanceMethod ({ cls := "ConsolidationDesk$Holdings", name := "findControl", desc := "()V" } : Jvm.MethodName)) ∈ kxW := List.mem_filter.mpr ⟨List.mem_append_right _ (List.mem_of_getElem? (i := 161) (by decide +kernel)), by decide +kernel⟩
theorem iw_162 : (Jvm.Cond.code ({ cls := "ConsolidationDesk$Holdings", name := "findControl", desc := "()V" } : Jvm.MethodName) prog_2_method_8_code (3 : Nat) (Option.none : Option Jvm.ClassFile.FieldType)) ∈ kxW := List.mem_filter.mpr ⟨List.mem_append_right _ (List.mem_of_getElem? (i := 162) (by decide +kernel)), by decide +kernel⟩
theorem iw_163 : (Jvm.Cond.methodLink "ConsolidationDesk$Holdings" (63 : Nat) ({ cls := "ConsolidationDesk$Holdings", name := "heldUnderControl", desc := "(I)I" } : Jvm.MethodName)) ∈ kxW := List.mem_filter.mpr ⟨List.mem_append_right _ (List.mem_of_getElem? (i := 163) (by decide +kernel)), by decide +kernel⟩
theorem iw_165 : (Jvm.Cond.instanceMethod ({ cls := "ConsolidationDesk$Holdings", name := "heldUnderControl", desc := "(I)I" } : Jvm.MethodName)) ∈ kxW := List.mem_filter.mpr ⟨List.mem_append_right _ (List.mem_of_getElem? (i := 165) (by decide +kernel)), by decide +kernel⟩
theorem iw_166 : (Jvm.Cond.code ({ cls := "ConsolidationDesk$Holdings", name := "heldUnderControl", desc := "(I)I" } : Jvm.MethodName) prog_2_method_9_code (4 : Nat) (Option.some Jvm.ClassFile.FieldType.int)) ∈ kxW := List.mem_filter.mpr ⟨List.mem_append_right _ (List.mem_of_getElem? (i := 166) (by decide +kernel)), by decide +kernel⟩
theorem iw_167 : (Jvm.Cond.methodLink "ConsolidationDesk$Holdings" (45 : Nat) ({ cls := "ConsolidationDesk$Holdings", name := "findShares", desc := "()V" } : Jvm.MethodName)) ∈ kxW := List.mem_filter.mpr ⟨List.mem_append_right _ (List.mem_of_getElem? (i := 167) (by decide +kernel)), by decide +kernel⟩
theorem iw_169 : (Jvm.Cond.instanceMethod ({ cls := "ConsolidationDesk$Holdings", name := "findShares", desc := "()V" } : Jvm.MethodName)) ∈ kxW := List.mem_filter.mpr ⟨List.mem_append_right _ (List.mem_of_getElem? (i := 169) (by decide +kernel)), by decide +kernel⟩
theorem iw_170 : (Jvm.Cond.code ({ cls := "ConsolidationDesk$Holdings", name := "findShares", desc := "()V" } : Jvm.MethodName) prog_2_method_10_code (3 : Nat) (Option.none : Option Jvm.ClassFile.FieldType)) ∈ kxW := List.mem_filter.mpr ⟨List.mem_append_right _ (List.mem_of_getElem? (i := 170) (by decide +kernel)), by decide +kernel⟩
theorem iw_171 : (Jvm.Cond.methodLink "ConsolidationDesk$Holdings" (66 : Nat) ({ cls := "java/util/Arrays", name := "fill", desc := "([JJ)V" } : Jvm.MethodName)) ∈ kxW := List.mem_filter.mpr ⟨List.mem_append_right _ (List.mem_of_getElem? (i := 171) (by decide +kernel)), by decide +kernel⟩
theorem iw_172 : (Jvm.Cond.static ({ cls := "java/util/Arrays", name := "fill", desc := "([JJ)V" } : Jvm.MethodName)) ∈ kxW := List.mem_filter.mpr ⟨List.mem_append_right _ (List.mem_of_getElem? (i := 172) (by decide +kernel)), by decide +kernel⟩
theorem iw_173 : (Jvm.Cond.code ({ cls := "java/util/Arrays", name := "fill", desc := "([JJ)V" } : Jvm.MethodName) prog_11_method_101_code (5 : Nat) (Option.none : Option Jvm.ClassFile.FieldType)) ∈ kxW := List.mem_filter.mpr ⟨List.mem_append_right _ (List.mem_of_getElem? (i := 173) (by decide +kernel)), by decide +kernel⟩
theorem iw_174 : (Jvm.Cond.methodLink "ConsolidationDesk$Holdings" (69 : Nat) ({ cls := "ConsolidationDesk$Holdings", name := "addLink", desc := "()V" } : Jvm.MethodName)) ∈ kxW := List.mem_filter.mpr ⟨List.mem_append_right _ (List.mem_of_getElem? (i := 174) (by decide +kernel)), by decide +kernel⟩
theorem iw_176 : (Jvm.Cond.instanceMethod ({ cls := "ConsolidationDesk$Holdings", name := "addLink", desc := "()V" } : Jvm.MethodName)) ∈ kxW := List.mem_filter.mpr ⟨List.mem_append_right _ (List.mem_of_getElem? (i := 176) (by decide +kernel)), by decide +kernel⟩
theorem iw_177 : (Jvm.Cond.code ({ cls := "ConsolidationDesk$Holdings", name := "addLink", desc := "()V" } : Jvm.MethodName) prog_2_method_11_code (5 : Nat) (Option.none : Option Jvm.ClassFile.FieldType)) ∈ kxW := List.mem_filter.mpr ⟨List.mem_append_right _ (List.mem_of_getElem? (i := 177) (by decide +kernel)), by decide +kernel⟩
theorem iw_178 : (Jvm.Cond.constantLong "ConsolidationDesk$Holdings" (72 : Nat) (10000 : Int64)) ∈ kxW := List.mem_filter.mpr ⟨List.mem_append_right _ (List.mem_of_getElem? (i := 178) (by decide +kernel)), by decide +kernel⟩
theorem iw_179 : (Jvm.Cond.methodLink "ConsolidationDesk$Holdings" (74 : Nat) ({ cls := "java/lang/System", name := "arraycopy", desc := "(Ljava/lang/Object;ILjava/lang/Object;II)V" } : Jvm.MethodName)) ∈ kxW := List.mem_filter.mpr ⟨List.mem_append_right _ (List.mem_of_getElem? (i := 179) (by decide +kernel)), by decide +kernel⟩
theorem iw_180 : (Jvm.Cond.static ({ cls := "java/lang/System", name := "arraycopy", desc := "(Ljava/lang/Object;ILjava/lang/Object;II)V" } : Jvm.MethodName)) ∈ kxW := List.mem_filter.mpr ⟨List.mem_append_right _ (List.mem_of_getElem? (i := 180) (by decide +kernel)), by decide +kernel⟩
theorem iw_181 : (Jvm.Cond.native ({ cls := "java/lang/System", name := "arraycopy", desc := "(Ljava/lang/Object;ILjava/lang/Object;II)V" } : Jvm.MethodName)) ∈ kxW := List.mem_filter.mpr ⟨List.mem_append_right _ (List.mem_of_getElem? (i := 181) (by decide +kernel)), by decide +kernel⟩
def R_H : String := "ConsolidationDesk$Holdings"
def F_H : u_T := fun k => match k with
  | 0 => ("ConsolidationDesk$Holdings", "parts", "[I", true)
  | 1 => ("ConsolidationDesk$Holdings", "chainLengths", "[I", true)
  | 2 => ("ConsolidationDesk$Holdings", "underControl", "[Z", true)
  | 3 => ("ConsolidationDesk$Holdings", "shares", "[J", true)
  | 4 => ("ConsolidationDesk$Holdings", "chainShares", "[J", true)
  | _ => ("ConsolidationDesk$Holdings", "longerChainShares", "[J", true)
def t_H : Nat → FieldType := fun k => match k with
  | 0 => .array .int
  | 1 => .array .int
  | 2 => .array .boolean
  | 3 => .array .long
  | 4 => .array .long
  | _ => .array .long
theorem n_H : ∀ a, a < 6 → ∀ b, b < 6 → a ≠ b → (F_H a).2.1 ≠ (F_H b).2.1 := by decide +kernel
theorem t_H_ok : ∀ k, k < 6 → parseFieldDescriptor (F_H k).2.2.1 = some (t_H k) := by decide +kernel
theorem in_H : ∀ w ∈ u_ws R_H F_H 6, w ∈ kxW := by decide +kernel
def R_R : String := "ConsolidationDesk$Report"
def F_R : u_T := fun k => match k with
  | 0 => ("ConsolidationDesk$Report", "made", "Z", false)
  | 1 => ("ConsolidationDesk$Report", "companies", "I", false)
  | 2 => ("ConsolidationDesk$Report", "accounts", "I", false)
  | 3 => ("ConsolidationDesk$Report", "amounts", "[J", true)
  | 4 => ("ConsolidationDesk$Report", "stepAmounts", "[J", true)
  | 5 => ("ConsolidationDesk$Report", "groupAmounts", "[J", true)
  | 6 => ("ConsolidationDesk$Report", "outsidersCredits", "[J", true)
  | 7 => ("ConsolidationDesk$Report", "openPlaces", "[I", true)
  | _ => ("ConsolidationDesk$Report", "open", "I", false)
def t_R : Nat → FieldType := fun k => match k with
  | 0 => .boolean
  | 1 => .int
  | 2 => .int
  | 3 => .array .long
  | 4 => .array .long
  | 5 => .array .long
  | 6 => .array .long
  | 7 => .array .int
  | _ => .int
theorem n_R : ∀ a, a < 9 → ∀ b, b < 9 → a ≠ b → (F_R a).2.1 ≠ (F_R b).2.1 := by decide +kernel
theorem t_R_ok : ∀ k, k < 9 → parseFieldDescriptor (F_R k).2.2.1 = some (t_R k) := by decide +kernel
theorem in_R : ∀ w ∈ u_ws R_R F_R 9, w ∈ kxW := by decide +kernel
def R_D : String := "ConsolidationDesk"
def F_D : u_T := fun k => match k with
  | 0 => ("ConsolidationDesk", "companies", "I", false)
  | 1 => ("ConsolidationDesk", "currencyOf", "[I", true)
  | 2 => ("ConsolidationDesk", "accounts", "I", false)
  | 3 => ("ConsolidationDesk", "sortOf", "[I", true)
  | 4 => ("ConsolidationDesk", "reserve", "I", false)
  | 5 => ("ConsolidationDesk", "closingRates", "[I", true)
  | 6 => ("ConsolidationDesk", "averageRates", "[I", true)
  | 7 => ("ConsolidationDesk", "sums", "[J", true)
  | 8 => ("ConsolidationDesk", "historicAmounts", "[J", true)
  | 9 => ("ConsolidationDesk", "holdings", "LConsolidationDesk$Holdings;", true)
  | _ => ("ConsolidationDesk", "report", "LConsolidationDesk$Report;", true)
def t_D : Nat → FieldType := fun k => match k with
  | 0 => .int
  | 1 => .array .int
  | 2 => .int
  | 3 => .array .int
  | 4 => .int
  | 5 => .array .int
  | 6 => .array .int
  | 7 => .array .long
  | 8 => .array .long
  | 9 => .object "ConsolidationDesk$Holdings"
  | _ => .object "ConsolidationDesk$Report"
theorem n_D : ∀ a, a < 11 → ∀ b, b < 11 → a ≠ b → (F_D a).2.1 ≠ (F_D b).2.1 := by decide +kernel
theorem t_D_ok : ∀ k, k < 11 → parseFieldDescriptor (F_D k).2.2.1 = some (t_D k) := by decide +kernel
theorem in_D : ∀ w ∈ u_ws R_D F_D 11, w ∈ kxW := by decide +kernel
def R_M : String := "ConsolidationDeskModel"
def F_M : u_T := fun k => match k with
  | 0 => ("ConsolidationDeskModel", "thrown", "I", false)
  | 1 => ("ConsolidationDeskModel", "companies", "I", false)
  | 2 => ("ConsolidationDeskModel", "accounts", "I", false)
  | 3 => ("ConsolidationDeskModel", "currency", "[I", true)
  | 4 => ("ConsolidationDeskModel", "sort", "[I", true)
  | 5 => ("ConsolidationDeskModel", "closing", "[I", true)
  | 6 => ("ConsolidationDeskModel", "average", "[I", true)
  | 7 => ("ConsolidationDeskModel", "held", "[I", true)
  | 8 => ("ConsolidationDeskModel", "sum", "[J", true)
  | 9 => ("ConsolidationDeskModel", "told", "[J", true)
  | 10 => ("ConsolidationDeskModel", "done", "Z", false)
  | 11 => ("ConsolidationDeskModel", "left", "[J", true)
  | 12 => ("ConsolidationDeskModel", "step", "[J", true)
  | 13 => ("ConsolidationDeskModel", "outside", "[J", true)
  | 14 => ("ConsolidationDeskModel", "items", "I", false)
  | _ => ("ConsolidationDeskModel", "item", "[J", true)
def t_M : Nat → FieldType := fun k => match k with
  | 0 => .int
  | 1 => .int
  | 2 => .int
  | 3 => .array .int
  | 4 => .array .int
  | 5 => .array .int
  | 6 => .array .int
  | 7 => .array .int
  | 8 => .array .long
  | 9 => .array .long
  | 10 => .boolean
  | 11 => .array .long
  | 12 => .array .long
  | 13 => .array .long
  | 14 => .int
  | _ => .array .long
theorem n_M : ∀ a, a < 16 → ∀ b, b < 16 → a ≠ b → (F_M a).2.1 ≠ (F_M b).2.1 := by decide +kernel
theorem t_M_ok : ∀ k, k < 16 → parseFieldDescriptor (F_M k).2.2.1 = some (t_M k) := by decide +kernel
theorem in_M : ∀ w ∈ u_ws R_M F_M 16, w ∈ kxW := by decide +kernel
def R_A : String := "java/util/Arrays"
def R_L : String := "ConsolidationDeskLaw"
abbrev classes : List vw_C := [(R_H, F_H, 6), (R_R, F_R, 9), (R_D, F_D, 11), (R_M, F_M, 16)]
theorem sl_H_addLink : Cond.selects "ConsolidationDesk$Holdings" ⟨"ConsolidationDesk$Holdings", "addLink", "()V"⟩ ⟨"ConsolidationDesk$Holdings", "addLink", "()V"⟩ ∈ kxW := List.mem_filter.mpr ⟨List.mem_append_left _ (by decide +kernel), by decide +kernel⟩
theorem sl_H_findControl : Cond.selects "ConsolidationDesk$Holdings" ⟨"ConsolidationDesk$Holdings", "findControl", "()V"⟩ ⟨"ConsolidationDesk$Holdings", "findControl", "()V"⟩ ∈ kxW := List.mem_filter.mpr ⟨List.mem_append_left _ (by decide +kernel), by decide +kernel⟩
theorem sl_H_findShares : Cond.selects "ConsolidationDesk$Holdings" ⟨"ConsolidationDesk$Holdings", "findShares", "()V"⟩ ⟨"ConsolidationDesk$Holdings", "findShares", "()V"⟩ ∈ kxW := List.mem_filter.mpr ⟨List.mem_append_left _ (by decide +kernel), by decide +kernel⟩
theorem sl_H_hasTooLongChain : Cond.selects "ConsolidationDesk$Holdings" ⟨"ConsolidationDesk$Holdings", "hasTooLongChain", "()Z"⟩ ⟨"ConsolidationDesk$Holdings", "hasTooLongChain", "()Z"⟩ ∈ kxW := List.mem_filter.mpr ⟨List.mem_append_left _ (by decide +kernel), by decide +kernel⟩
theorem sl_H_heldInAll : Cond.selects "ConsolidationDesk$Holdings" ⟨"ConsolidationDesk$Holdings", "heldInAll", "(I)I"⟩ ⟨"ConsolidationDesk$Holdings", "heldInAll", "(I)I"⟩ ∈ kxW := List.mem_filter.mpr ⟨List.mem_append_left _ (by decide +kernel), by decide +kernel⟩
theorem sl_H_heldUnderControl : Cond.selects "ConsolidationDesk$Holdings" ⟨"ConsolidationDesk$Holdings", "heldUnderControl", "(I)I"⟩ ⟨"ConsolidationDesk$Holdings", "heldUnderControl", "(I)I"⟩ ∈ kxW := List.mem_filter.mpr ⟨List.mem_append_left _ (by decide +kernel), by decide +kernel⟩
theorem sl_H_lengthenChains : Cond.selects "ConsolidationDesk$Holdings" ⟨"ConsolidationDesk$Holdings", "lengthenChains", "(I)I"⟩ ⟨"ConsolidationDesk$Holdings", "lengthenChains", "(I)I"⟩ ∈ kxW := List.mem_filter.mpr ⟨List.mem_append_left _ (by decide +kernel), by decide +kernel⟩
