/-! ConsolidationDeskModel.translate(II)V -/
abbrev y_M_translate : MethodName := ⟨"ConsolidationDeskModel", "translate", "(II)V"⟩
theorem d_M_translate_0 : decode prog_5_method_27_code 0 = .ok (.aload_n 0, 1) := by decide +kernel
theorem d_M_translate_1 : decode prog_5_method_27_code 1 = .ok (.getfield 7, 3) := by decide +kernel
theorem d_M_translate_4 : decode prog_5_method_27_code 4 = .ok (.iload_n 1, 1) := by decide +kernel
theorem d_M_translate_5 : decode prog_5_method_27_code 5 = .ok (.iaload, 1) := by decide +kernel
theorem d_M_translate_6 : decode prog_5_method_27_code 6 = .ok (.istore_n 3, 1) := by decide +kernel
theorem d_M_translate_7 : decode prog_5_method_27_code 7 = .ok (.lconst 0, 1) := by decide +kernel
theorem d_M_translate_8 : decode prog_5_method_27_code 8 = .ok (.lstore 4, 2) := by decide +kernel
theorem d_M_translate_10 : decode prog_5_method_27_code 10 = .ok (.iconst 0, 1) := by decide +kernel
theorem d_M_translate_11 : decode prog_5_method_27_code 11 = .ok (.istore 6, 2) := by decide +kernel
theorem d_M_translate_13 : decode prog_5_method_27_code 13 = .ok (.iload 6, 2) := by decide +kernel
theorem d_M_translate_15 : decode prog_5_method_27_code 15 = .ok (.aload_n 0, 1) := by decide +kernel
theorem d_M_translate_16 : decode prog_5_method_27_code 16 = .ok (.getfield 52, 3) := by decide +kernel
theorem d_M_translate_19 : decode prog_5_method_27_code 19 = .ok (.if_icmp .ge 170, 3) := by decide +kernel
theorem d_M_translate_22 : decode prog_5_method_27_code 22 = .ok (.iload 6, 2) := by decide +kernel
theorem d_M_translate_24 : decode prog_5_method_27_code 24 = .ok (.iload_n 2, 1) := by decide +kernel
theorem d_M_translate_25 : decode prog_5_method_27_code 25 = .ok (.if_icmp .ne 6, 3) := by decide +kernel
theorem d_M_translate_28 : decode prog_5_method_27_code 28 = .ok (.goto 155, 3) := by decide +kernel
theorem d_M_translate_31 : decode prog_5_method_27_code 31 = .ok (.iconst (-1), 1) := by decide +kernel
theorem d_M_translate_32 : decode prog_5_method_27_code 32 = .ok (.istore 7, 2) := by decide +kernel
theorem d_M_translate_34 : decode prog_5_method_27_code 34 = .ok (.iload 7, 2) := by decide +kernel
theorem d_M_translate_36 : decode prog_5_method_27_code 36 = .ok (.bipush 12, 2) := by decide +kernel
theorem d_M_translate_38 : decode prog_5_method_27_code 38 = .ok (.if_icmp .ge 79, 3) := by decide +kernel
theorem d_M_translate_41 : decode prog_5_method_27_code 41 = .ok (.aload_n 0, 1) := by decide +kernel
theorem d_M_translate_42 : decode prog_5_method_27_code 42 = .ok (.getfield 32, 3) := by decide +kernel
theorem d_M_translate_45 : decode prog_5_method_27_code 45 = .ok (.iload_n 1, 1) := by decide +kernel
theorem d_M_translate_46 : decode prog_5_method_27_code 46 = .ok (.iload 6, 2) := by decide +kernel
theorem d_M_translate_48 : decode prog_5_method_27_code 48 = .ok (.iload 7, 2) := by decide +kernel
theorem d_M_translate_50 : decode prog_5_method_27_code 50 = .ok (.invokestatic 79, 3) := by decide +kernel
theorem d_M_translate_53 : decode prog_5_method_27_code 53 = .ok (.aload_n 0, 1) := by decide +kernel
theorem d_M_translate_54 : decode prog_5_method_27_code 54 = .ok (.getfield 13, 3) := by decide +kernel
theorem d_M_translate_57 : decode prog_5_method_27_code 57 = .ok (.iload 6, 2) := by decide +kernel
theorem d_M_translate_59 : decode prog_5_method_27_code 59 = .ok (.iaload, 1) := by decide +kernel
theorem d_M_translate_60 : decode prog_5_method_27_code 60 = .ok (.iconst 3, 1) := by decide +kernel
theorem d_M_translate_61 : decode prog_5_method_27_code 61 = .ok (.if_icmp .ne 7, 3) := by decide +kernel
theorem d_M_translate_64 : decode prog_5_method_27_code 64 = .ok (.lconst 0, 1) := by decide +kernel
theorem d_M_translate_65 : decode prog_5_method_27_code 65 = .ok (.goto 45, 3) := by decide +kernel
theorem d_M_translate_68 : decode prog_5_method_27_code 68 = .ok (.aload_n 0, 1) := by decide +kernel
theorem d_M_translate_69 : decode prog_5_method_27_code 69 = .ok (.getfield 25, 3) := by decide +kernel
theorem d_M_translate_72 : decode prog_5_method_27_code 72 = .ok (.iload_n 1, 1) := by decide +kernel
theorem d_M_translate_73 : decode prog_5_method_27_code 73 = .ok (.iload 6, 2) := by decide +kernel
theorem d_M_translate_75 : decode prog_5_method_27_code 75 = .ok (.iload 7, 2) := by decide +kernel
theorem d_M_translate_77 : decode prog_5_method_27_code 77 = .ok (.invokestatic 79, 3) := by decide +kernel
theorem d_M_translate_80 : decode prog_5_method_27_code 80 = .ok (.laload, 1) := by decide +kernel
theorem d_M_translate_81 : decode prog_5_method_27_code 81 = .ok (.aload_n 0, 1) := by decide +kernel
theorem d_M_translate_82 : decode prog_5_method_27_code 82 = .ok (.getfield 13, 3) := by decide +kernel
theorem d_M_translate_85 : decode prog_5_method_27_code 85 = .ok (.iload 6, 2) := by decide +kernel
theorem d_M_translate_87 : decode prog_5_method_27_code 87 = .ok (.iaload, 1) := by decide +kernel
theorem d_M_translate_88 : decode prog_5_method_27_code 88 = .ok (.iconst 1, 1) := by decide +kernel
theorem d_M_translate_89 : decode prog_5_method_27_code 89 = .ok (.if_icmp .ne 12, 3) := by decide +kernel
theorem d_M_translate_92 : decode prog_5_method_27_code 92 = .ok (.aload_n 0, 1) := by decide +kernel
theorem d_M_translate_93 : decode prog_5_method_27_code 93 = .ok (.getfield 16, 3) := by decide +kernel
theorem d_M_translate_96 : decode prog_5_method_27_code 96 = .ok (.iload_n 3, 1) := by decide +kernel
theorem d_M_translate_97 : decode prog_5_method_27_code 97 = .ok (.iaload, 1) := by decide +kernel
theorem d_M_translate_98 : decode prog_5_method_27_code 98 = .ok (.goto 9, 3) := by decide +kernel
theorem d_M_translate_101 : decode prog_5_method_27_code 101 = .ok (.aload_n 0, 1) := by decide +kernel
theorem d_M_translate_102 : decode prog_5_method_27_code 102 = .ok (.getfield 19, 3) := by decide +kernel
theorem d_M_translate_105 : decode prog_5_method_27_code 105 = .ok (.iload_n 3, 1) := by decide +kernel
theorem d_M_translate_106 : decode prog_5_method_27_code 106 = .ok (.iaload, 1) := by decide +kernel
theorem d_M_translate_107 : decode prog_5_method_27_code 107 = .ok (.invokestatic 140, 3) := by decide +kernel
theorem d_M_translate_110 : decode prog_5_method_27_code 110 = .ok (.lastore, 1) := by decide +kernel
theorem d_M_translate_111 : decode prog_5_method_27_code 111 = .ok (.iinc 7 1, 3) := by decide +kernel
theorem d_M_translate_114 : decode prog_5_method_27_code 114 = .ok (.goto (-80), 3) := by decide +kernel
theorem d_M_translate_117 : decode prog_5_method_27_code 117 = .ok (.aload_n 0, 1) := by decide +kernel
theorem d_M_translate_118 : decode prog_5_method_27_code 118 = .ok (.getfield 13, 3) := by decide +kernel
theorem d_M_translate_121 : decode prog_5_method_27_code 121 = .ok (.iload 6, 2) := by decide +kernel
theorem d_M_translate_123 : decode prog_5_method_27_code 123 = .ok (.iaload, 1) := by decide +kernel
theorem d_M_translate_124 : decode prog_5_method_27_code 124 = .ok (.iconst 3, 1) := by decide +kernel
theorem d_M_translate_125 : decode prog_5_method_27_code 125 = .ok (.if_icmp .ne 46, 3) := by decide +kernel
theorem d_M_translate_128 : decode prog_5_method_27_code 128 = .ok (.aload_n 0, 1) := by decide +kernel
theorem d_M_translate_129 : decode prog_5_method_27_code 129 = .ok (.getfield 32, 3) := by decide +kernel
theorem d_M_translate_132 : decode prog_5_method_27_code 132 = .ok (.iload_n 1, 1) := by decide +kernel
theorem d_M_translate_133 : decode prog_5_method_27_code 133 = .ok (.iload 6, 2) := by decide +kernel
theorem d_M_translate_135 : decode prog_5_method_27_code 135 = .ok (.iconst (-1), 1) := by decide +kernel
theorem d_M_translate_136 : decode prog_5_method_27_code 136 = .ok (.invokestatic 79, 3) := by decide +kernel
theorem d_M_translate_139 : decode prog_5_method_27_code 139 = .ok (.iload_n 3, 1) := by decide +kernel
theorem d_M_translate_140 : decode prog_5_method_27_code 140 = .ok (.ifCond .ne 18, 3) := by decide +kernel
theorem d_M_translate_143 : decode prog_5_method_27_code 143 = .ok (.aload_n 0, 1) := by decide +kernel
theorem d_M_translate_144 : decode prog_5_method_27_code 144 = .ok (.getfield 25, 3) := by decide +kernel
theorem d_M_translate_147 : decode prog_5_method_27_code 147 = .ok (.iload_n 1, 1) := by decide +kernel
theorem d_M_translate_148 : decode prog_5_method_27_code 148 = .ok (.iload 6, 2) := by decide +kernel
theorem d_M_translate_150 : decode prog_5_method_27_code 150 = .ok (.iconst (-1), 1) := by decide +kernel
theorem d_M_translate_151 : decode prog_5_method_27_code 151 = .ok (.invokestatic 79, 3) := by decide +kernel
theorem d_M_translate_154 : decode prog_5_method_27_code 154 = .ok (.laload, 1) := by decide +kernel
theorem d_M_translate_155 : decode prog_5_method_27_code 155 = .ok (.goto 15, 3) := by decide +kernel
theorem d_M_translate_158 : decode prog_5_method_27_code 158 = .ok (.aload_n 0, 1) := by decide +kernel
theorem d_M_translate_159 : decode prog_5_method_27_code 159 = .ok (.getfield 29, 3) := by decide +kernel
theorem d_M_translate_162 : decode prog_5_method_27_code 162 = .ok (.bipush 12, 2) := by decide +kernel
theorem d_M_translate_164 : decode prog_5_method_27_code 164 = .ok (.iload_n 1, 1) := by decide +kernel
theorem d_M_translate_165 : decode prog_5_method_27_code 165 = .ok (.imul, 1) := by decide +kernel
theorem d_M_translate_166 : decode prog_5_method_27_code 166 = .ok (.iload 6, 2) := by decide +kernel
theorem d_M_translate_168 : decode prog_5_method_27_code 168 = .ok (.iadd, 1) := by decide +kernel
theorem d_M_translate_169 : decode prog_5_method_27_code 169 = .ok (.laload, 1) := by decide +kernel
theorem d_M_translate_170 : decode prog_5_method_27_code 170 = .ok (.lastore, 1) := by decide +kernel
theorem d_M_translate_171 : decode prog_5_method_27_code 171 = .ok (.lload 4, 2) := by decide +kernel
theorem d_M_translate_173 : decode prog_5_method_27_code 173 = .ok (.aload_n 0, 1) := by decide +kernel
theorem d_M_translate_174 : decode prog_5_method_27_code 174 = .ok (.iload_n 1, 1) := by decide +kernel
theorem d_M_translate_175 : decode prog_5_method_27_code 175 = .ok (.iload 6, 2) := by decide +kernel
theorem d_M_translate_177 : decode prog_5_method_27_code 177 = .ok (.invokevirtual 112, 3) := by decide +kernel
theorem d_M_translate_180 : decode prog_5_method_27_code 180 = .ok (.ladd, 1) := by decide +kernel
theorem d_M_translate_181 : decode prog_5_method_27_code 181 = .ok (.lstore 4, 2) := by decide +kernel
theorem d_M_translate_183 : decode prog_5_method_27_code 183 = .ok (.iinc 6 1, 3) := by decide +kernel
theorem d_M_translate_186 : decode prog_5_method_27_code 186 = .ok (.goto (-173), 3) := by decide +kernel
theorem d_M_translate_189 : decode prog_5_method_27_code 189 = .ok (.aload_n 0, 1) := by decide +kernel
theorem d_M_translate_190 : decode prog_5_method_27_code 190 = .ok (.getfield 32, 3) := by decide +kernel
theorem d_M_translate_193 : decode prog_5_method_27_code 193 = .ok (.iload_n 1, 1) := by decide +kernel
theorem d_M_translate_194 : decode prog_5_method_27_code 194 = .ok (.iload_n 2, 1) := by decide +kernel
theorem d_M_translate_195 : decode prog_5_method_27_code 195 = .ok (.iconst (-1), 1) := by decide +kernel
theorem d_M_translate_196 : decode prog_5_method_27_code 196 = .ok (.invokestatic 79, 3) := by decide +kernel
theorem d_M_translate_199 : decode prog_5_method_27_code 199 = .ok (.lload 4, 2) := by decide +kernel
theorem d_M_translate_201 : decode prog_5_method_27_code 201 = .ok (.lneg, 1) := by decide +kernel
theorem d_M_translate_202 : decode prog_5_method_27_code 202 = .ok (.lastore, 1) := by decide +kernel
theorem d_M_translate_203 : decode prog_5_method_27_code 203 = .ok (.return_, 1) := by decide +kernel
abbrev WS_M_translate (cI cL cZ : ClassId)  (h0 a_currency a_sort a_closing a_average a_held a_sum a_told a_left a_step a_outside a_item : Nat) (v_thrown : Int32) (v_companies : Int32) (v_accounts : Int32) (v_done : Int32) (v_items : Int32) (v_currency : (Nat → Int32)) (v_sort : (Nat → Int32)) (v_closing : (Nat → Int32)) (v_average : (Nat → Int32)) (v_sum : (Nat → Int64)) (v_told : (Nat → Int64)) (v_left : (Nat → Int64)) : va_W := [(h0, .inr (3, [.int v_thrown, .int v_companies, .int v_accounts, .ref a_currency, .ref a_sort, .ref a_closing, .ref a_average, .ref a_held, .ref a_sum, .ref a_told, .int v_done, .ref a_left, .ref a_step, .ref a_outside, .int v_items, .ref a_item])), (a_currency, .inl (cI, 12, .inl v_currency)), (a_sort, .inl (cI, 12, .inl v_sort)), (a_closing, .inl (cI, 4, .inl v_closing)), (a_average, .inl (cI, 4, .inl v_average)), (a_sum, .inl (cL, 1872, .inr (.inl v_sum))), (a_told, .inl (cL, 144, .inr (.inl v_told))), (a_left, .inl (cL, 1872, .inr (.inl v_left)))]
def wp_M_translate  (p0 : Int32) (p1 : Int32) (v_accounts : Int32) (v_currency : (Nat → Int32)) (v_sort : (Nat → Int32)) (v_closing : (Nat → Int32)) (v_average : (Nat → Int32)) (v_sum : (Nat → Int64)) (v_told : (Nat → Int64)) (v_left : (Nat → Int64)) (post : (Nat → Int64) → Prop) : Prop := (vp_in p0 12 ∧ (∀ x6 : Int32, x6 = (v_currency p0.toNatClampNeg) → (∃ (I13 : Int64 → Int32 → (Nat → Int64) → Prop) (μ13 : Int64 → Int32 → (Nat → Int64) → Nat), I13 0 0 v_left ∧ ∀ (l4_13 : Int64) (l6_13 : Int32) (v_left_13 : (Nat → Int64)), I13 l4_13 l6_13 v_left_13 → ((v_accounts ≤ l6_13 → (wp_M_cell p0 p1 (-1) (fun (r196 : Int32) (u196 : Unit) => (vp_in r196 1872 ∧ post (vp_updL v_left_13 r196.toNatClampNeg (-l4_13)))))) ∧ (¬ v_accounts ≤ l6_13 → ((¬ l6_13 = p1 → (∃ (I34 : Int32 → (Nat → Int64) → Prop) (μ34 : Int32 → (Nat → Int64) → Nat), I34 (-1) v_left_13 ∧ ∀ (l7_34 : Int32) (v_left_34 : (Nat → Int64)), I34 l7_34 v_left_34 → ((12 ≤ l7_34 → (vp_in l6_13 12 ∧ ((¬ (v_sort l6_13.toNatClampNeg) = 3 → (wp_M_total p0 l6_13 v_left_34 (fun (r177 : Int64) (u177 : Unit) => (∀ x181 : Int64, x181 = (l4_13 + r177) → I13 x181 (l6_13 + 1) v_left_34 ∧ μ13 x181 (l6_13 + 1) v_left_34 < μ13 l4_13 l6_13 v_left_13)))) ∧ ((v_sort l6_13.toNatClampNeg) = 3 → (wp_M_cell p0 l6_13 (-1) (fun (r136 : Int32) (u136 : Unit) => ((¬ x6 = 0 → (vp_in ((12 * p0) + l6_13) 144 ∧ (vp_in r136 1872 ∧ (wp_M_total p0 l6_13 (vp_updL v_left_34 r136.toNatClampNeg (v_told (Int32.toNatClampNeg ((12 * p0) + l6_13)))) (fun (r177 : Int64) (u177 : Unit) => (∀ x181 : Int64, x181 = (l4_13 + r177) → I13 x181 (l6_13 + 1) (vp_updL v_left_34 r136.toNatClampNeg (v_told (Int32.toNatClampNeg ((12 * p0) + l6_13)))) ∧ μ13 x181 (l6_13 + 1) (vp_updL v_left_34 r136.toNatClampNeg (v_told (Int32.toNatClampNeg ((12 * p0) + l6_13)))) < μ13 l4_13 l6_13 v_left_13)))))) ∧ (x6 = 0 → (wp_M_cell p0 l6_13 (-1) (fun (r151 : Int32) (u151 : Unit) => (vp_in r151 1872 ∧ (vp_in r136 1872 ∧ (wp_M_total p0 l6_13 (vp_updL v_left_34 r136.toNatClampNeg (v_sum r151.toNatClampNeg)) (fun (r177 : Int64) (u177 : Unit) => (∀ x181 : Int64, x181 = (l4_13 + r177) → I13 x181 (l6_13 + 1) (vp_updL v_left_34 r136.toNatClampNeg (v_sum r151.toNatClampNeg)) ∧ μ13 x181 (l6_13 + 1) (vp_updL v_left_34 r136.toNatClampNeg (v_sum r151.toNatClampNeg)) < μ13 l4_13 l6_13 v_left_13))))))))))))))) ∧ (¬ 12 ≤ l7_34 → (wp_M_cell p0 l6_13 l7_34 (fun (r50 : Int32) (u50 : Unit) => (vp_in l6_13 12 ∧ ((¬ (v_sort l6_13.toNatClampNeg) = 3 → (wp_M_cell p0 l6_13 l7_34 (fun (r77 : Int32) (u77 : Unit) => (vp_in r77 1872 ∧ (vp_in l6_13 12 ∧ ((¬ (v_sort l6_13.toNatClampNeg) = 1 → (vp_in x6 4 ∧ (wp_M_translated (v_sum r77.toNatClampNeg) (v_average x6.toNatClampNeg) (fun (r107 : Int64) (u107 : Unit) => (vp_in r50 1872 ∧ I34 (l7_34 + 1) (vp_updL v_left_34 r50.toNatClampNeg r107) ∧ μ34 (l7_34 + 1) (vp_updL v_left_34 r50.toNatClampNeg r107) < μ34 l7_34 v_left_34))))) ∧ ((v_sort l6_13.toNatClampNeg) = 1 → (vp_in x6 4 ∧ (wp_M_translated (v_sum r77.toNatClampNeg) (v_closing x6.toNatClampNeg) (fun (r107 : Int64) (u107 : Unit) => (vp_in r50 1872 ∧ I34 (l7_34 + 1) (vp_updL v_left_34 r50.toNatClampNeg r107) ∧ μ34 (l7_34 + 1) (vp_updL v_left_34 r50.toNatClampNeg r107) < μ34 l7_34 v_left_34))))))))))) ∧ ((v_sort l6_13.toNatClampNeg) = 3 → (vp_in r50 1872 ∧ I34 (l7_34 + 1) (vp_updL v_left_34 r50.toNatClampNeg 0) ∧ μ34 (l7_34 + 1) (vp_updL v_left_34 r50.toNatClampNeg 0) < μ34 l7_34 v_left_34)))))))))) ∧ (l6_13 = p1 → I13 l4_13 (l6_13 + 1) v_left_13 ∧ μ13 l4_13 (l6_13 + 1) v_left_13 < μ13 l4_13 l6_13 v_left_13)))))))
abbrev ws_M_translate : List Cond := .code y_M_translate prog_5_method_27_code 8 none :: kxW
abbrev rm_M_translate : Room := { frames := 2, cells := 0, slots := 0, locals := 49 }
abbrev QC_M_translate (dC : Nat → ClassId) (dI : Nat → Nat → Nat) (cI cL cZ : ClassId) (A : Nat → Prop)  (h0 a_currency a_sort a_closing a_average a_held a_sum a_told a_left a_step a_outside a_item : Nat) (v_thrown : Int32) (v_companies : Int32) (v_accounts : Int32) (v_done : Int32) (v_items : Int32) (v_currency : (Nat → Int32)) (v_sort : (Nat → Int32)) (v_closing : (Nat → Int32)) (v_average : (Nat → Int32)) (v_sum : (Nat → Int64)) (v_told : (Nat → Int64)) (v_left : (Nat → Int64)) (post : (Nat → Int64) → Prop) : Array Value → State → Outcome → State → Prop := va_Qv post (fun (u : (Nat → Int64)) t => kx_B (dC, dI) classes A (WS_M_translate cI cL cZ h0 a_currency a_sort a_closing a_average a_held a_sum a_told a_left a_step a_outside a_item v_thrown v_companies v_accounts v_done v_items v_currency v_sort v_closing v_average v_sum v_told u) t) A
set_option maxHeartbeats 4000000 in
set_option maxRecDepth 100000 in
theorem c_M_translate (l : Launch) (dC : Nat → ClassId) (dI : Nat → Nat → Nat) (cI cL cZ : ClassId)  (h0 a_currency a_sort a_closing a_average a_held a_sum a_told a_left a_step a_outside a_item : Nat) (v_thrown : Int32) (v_companies : Int32) (v_accounts : Int32) (v_done : Int32) (v_items : Int32) (v_currency : (Nat → Int32)) (v_sort : (Nat → Int32)) (v_closing : (Nat → Int32)) (v_average : (Nat → Int32)) (v_sum : (Nat → Int64)) (v_told : (Nat → Int64)) (v_left : (Nat → Int64)) (sz : Nat) (p0 : Int32) (p1 : Int32) {post : (Nat → Int64) → Prop} (hw : wp_M_translate p0 p1 v_accounts v_currency v_sort v_closing v_average v_sum v_told v_left post) : Met l y_M_translate ws_M_translate rm_M_translate (kx_Pc (dC, dI) classes (kx_T cI cL cZ) (WS_M_translate cI cL cZ h0 a_currency a_sort a_closing a_average a_held a_sum a_told a_left a_step a_outside a_item v_thrown v_companies v_accounts v_done v_items v_currency v_sort v_closing v_average v_sum v_told v_left) sz [.ref h0, .int p0, .int p1]) (QC_M_translate dC dI cI cL cZ (va_A (WS_M_translate cI cL cZ h0 a_currency a_sort a_closing a_average a_held a_sum a_told a_left a_step a_outside a_item v_thrown v_companies v_accounts v_done v_items v_currency v_sort v_closing v_average v_sum v_told v_left) sz) h0 a_currency a_sort a_closing a_average a_held a_sum a_told a_left a_step a_outside a_item v_thrown v_companies v_accounts v_done v_items v_currency v_sort v_closing v_average v_sum v_told v_left post) 0 0 (va_A (WS_M_translate cI cL cZ h0 a_currency a_sort a_closing a_average a_held a_sum a_told a_left a_step a_outside a_item v_thrown v_companies v_accounts v_done v_items v_currency v_sort v_closing v_average v_sum v_told v_left) sz) := by
  refine Met.ofW (cc := prog_5_method_27_code) (maxL := 8) (ret := none) (by decide) rfl ?_
  intro p e s m args below meth c s₁ B hml hv
  obtain ⟨rfl, hsz, hP, hK, hD0, hN⟩ := hv
  have hx := B.exec
  have hb := B.bytes
  have hr := B.returns
  have hts := atoms_spec (ws := ws_M_translate) B.pre
  have hown : s.vm.findClass R_M = some m.cls := findClass_of_methodNamed B.named
  have hlocks := B.notSynchronized
  subst hsz
  have hD := hD0.self (sz := s.heap.size)
  generalize hAe : va_A (WS_M_translate cI cL cZ h0 a_currency a_sort a_closing a_average a_held a_sum a_told a_left a_step a_outside a_item v_thrown v_companies v_accounts v_done v_items v_currency v_sort v_closing v_average v_sum v_told v_left) s.heap.size = A at hD ⊢
  have hA : ∀ q : Nat, s.heap.size ≤ q → A q := fun q h => by rw [← hAe]; exact Or.inr h
  have hS : va_S A s.heap s.heap [] := va_S.rf
  have hP : va_P (dC, dI) classes (WS_M_translate cI cL cZ h0 a_currency a_sort a_closing a_average a_held a_sum a_told a_left a_step a_outside a_item v_thrown v_companies v_accounts v_done v_items v_currency v_sort v_closing v_average v_sum v_told v_left) s.heap := hP
  have hl := lv_entry ([.ref h0, .int p0, .int p1]) (n := 8) (Nat.le_of_ble_eq_true rfl)
  rw [lg_entry_eq]
  generalize (lg_sl ([.ref h0, .int p0, .int p1]) ++ List.replicate (8 - (lg_sl ([.ref h0, .int p0, .int p1])).length) Slot.unset).toArray = ls at hl ⊢
  have hl : lv_has ls 8 [(0, .ref h0), (1, .int p0), (2, .int p1)] := hl
  unfold wp_M_translate at hw
  refine (show ∀ (H : Heap) (locs : List Loc), va_P (dC, dI) classes (WS_M_translate cI cL cZ h0 a_currency a_sort a_closing a_average a_held a_sum a_told a_left a_step a_outside a_item v_thrown v_companies v_accounts v_done v_items v_currency v_sort v_closing v_average v_sum v_told v_left) H → va_S A s.heap H locs → W p l e (headSpec ws_M_translate rm_M_translate).room s m ([.ref h0, .int p0, .int p1] : List Value).toArray below meth c H locs 0 0 (MQ below (QC_M_translate dC dI cI cL cZ A h0 a_currency a_sort a_closing a_average a_held a_sum a_told a_left a_step a_outside a_item v_thrown v_companies v_accounts v_done v_items v_currency v_sort v_closing v_average v_sum v_told v_left post) ([.ref h0, .int p0, .int p1] : List Value).toArray s 0 0 A) (F0 m 0 ls []) from ?_) _ _ hP hS
  intro H locs hP hS
  refine lv_aload_n hx hb d_M_translate_0 rfl (lv_at hl 0 rfl) ?_
  refine va_get (D := (dC, dI)) (ci := 3) (v := .ref a_currency) (C := R_M) (T := F_M) (N := 16) hx hb hts (kx_in in_M) hown hK hP 0 rfl rfl 3 (by decide) (hts _ (kx_w iw_478)) (fun _ h9 => h9) rfl d_M_translate_1 ?_
  refine lv_iload_n hx hb d_M_translate_4 rfl (lv_at hl 1 rfl) ?_
  obtain ⟨hi, hw⟩ := hw
  refine va_iald hx hb hK hP 1 0 rfl rfl hi d_M_translate_5 ?_
  refine lv_topi (fun x6 e6 => ?_)
  have hw := hw x6 e6
  refine lv_istore_n (lv' := [(3, .int x6), (0, .ref h0), (1, .int p0), (2, .int p1)]) hx hb d_M_translate_6 rfl hl (by decide) rfl (fun ls hl => ?_)
  refine lv_lconst (v := 0) hx hb d_M_translate_7 (by decide) ?_
  refine lv_lstore (lv' := [(4, .long 0), (3, .int x6), (0, .ref h0), (1, .int p0), (2, .int p1)]) hx hb d_M_translate_8 hl (by decide) rfl (fun ls hl => ?_)
  refine lv_iconst (v := 0) hx hb d_M_translate_10 (by decide) ?_
  refine lv_istore (lv' := [(6, .int 0), (4, .long 0), (3, .int x6), (0, .ref h0), (1, .int p0), (2, .int p1)]) hx hb d_M_translate_11 hl (by decide) rfl (fun ls hl => ?_)
  have hl := lv_sub hl [3, 4, 5, 2, 1, 0] rfl
  obtain ⟨I13, μ13, hi13, hs13⟩ := hw
  have L13 : ∀ (n : Nat) (l4_13 : Int64) (l6_13 : Int32) (v_left_13 : (Nat → Int64)) (H : Heap) (locs : List Loc) (ls : Array Slot), μ13 l4_13 l6_13 v_left_13 < n → I13 l4_13 l6_13 v_left_13 → lv_has ls 8 [(0, .ref h0), (1, .int p0), (2, .int p1), (3, .int x6), (4, .long l4_13), (6, .int l6_13)] → va_P (dC, dI) classes (WS_M_translate cI cL cZ h0 a_currency a_sort a_closing a_average a_held a_sum a_told a_left a_step a_outside a_item v_thrown v_companies v_accounts v_done v_items v_currency v_sort v_closing v_average v_sum v_told v_left_13) H → va_D A (WS_M_translate cI cL cZ h0 a_currency a_sort a_closing a_average a_held a_sum a_told a_left a_step a_outside a_item v_thrown v_companies v_accounts v_done v_items v_currency v_sort v_closing v_average v_sum v_told v_left_13) → va_S A s.heap H locs → W p l e (headSpec ws_M_translate rm_M_translate).room s m ([.ref h0, .int p0, .int p1] : List Value).toArray below meth c H locs 0 0 (MQ below (QC_M_translate dC dI cI cL cZ A h0 a_currency a_sort a_closing a_average a_held a_sum a_told a_left a_step a_outside a_item v_thrown v_companies v_accounts v_done v_items v_currency v_sort v_closing v_average v_sum v_told v_left post) ([.ref h0, .int p0, .int p1] : List Value).toArray s 0 0 A) (F0 m 13 ls []) := by
    intro n
    induction n with
    | zero => intro l4_13 l6_13 v_left_13 H locs ls hn; exact absurd hn (Nat.not_lt_zero _)
    | succ n ih13 =>
      intro l4_13 l6_13 v_left_13 H locs ls hn13 hI hl hP hD hS
      have hw := hs13 l4_13 l6_13 v_left_13 hI
      refine lv_iload hx hb d_M_translate_13 (lv_at hl 5 rfl) ?_
      refine lv_aload_n hx hb d_M_translate_15 rfl (lv_at hl 0 rfl) ?_
      refine va_get (D := (dC, dI)) (ci := 3) (v := .int v_accounts) (C := R_M) (T := F_M) (N := 16) hx hb hts (kx_in in_M) hown hK hP 0 rfl rfl 2 (by decide) (hts _ (kx_w iw_477)) (fun _ h9 => h9) rfl d_M_translate_16 ?_
      refine lv_icmp_ge (tgt := 189) hx hb d_M_translate_19 rfl (fun hc => ?_) (fun hc => ?_)
      ·
        have hw := hw.1 hc
        refine lv_aload_n hx hb d_M_translate_189 rfl (lv_at hl 0 rfl) ?_
        refine va_get (D := (dC, dI)) (ci := 3) (v := .ref a_left) (C := R_M) (T := F_M) (N := 16) hx hb hts (kx_in in_M) hown hK hP 0 rfl rfl 11 (by decide) (hts _ (kx_w iw_486)) (fun _ h9 => h9) rfl d_M_translate_190 ?_
        refine lv_iload_n hx hb d_M_translate_193 rfl (lv_at hl 1 rfl) ?_
        refine lv_iload_n hx hb d_M_translate_194 rfl (lv_at hl 2 rfl) ?_
        refine lv_iconst (v := (-1)) hx hb d_M_translate_195 (by decide) ?_
        refine kx_calli (ws' := fun u196 => (WS_M_translate cI cL cZ h0 a_currency a_sort a_closing a_average a_held a_sum a_told a_left a_step a_outside a_item v_thrown v_companies v_accounts v_done v_items v_currency v_sort v_closing v_average v_sum v_told v_left_13)) (va_runS (As := [.int p0, .int p1, .int (-1)]) (rest := [.ref a_left]) ⟨hx, hb, hml, hown, hts⟩ (c_M_cell l dC dI cI cL cZ  H.size p0 p1 (-1) hw) ⟨(callB_of 3 hts (kx_good iw_573) rfl rfl rfl (hts _ (kx_w iw_4)) (hts _ (kx_w iw_571)) (by decide +kernel) ⟨Nat.le_of_ble_eq_true rfl, Nat.le_of_ble_eq_true rfl⟩), (hts _ (kx_w iw_572))⟩ (kx_preS hN hK hP hD [] (by decide) rfl) rfl rfl hl.1 rfl (lv_room (Nat.le_of_ble_eq_true rfl)) d_M_translate_196 ⟨Nat.le_of_ble_eq_true rfl, Nat.le_of_ble_eq_true rfl⟩) hP hD hS hA [] [0, 1, 2, 3, 4, 5, 6, 7] rfl rfl (by decide) (by decide) [0, 1, 2, 3, 4, 5, 6, 7] (by decide) (fun _ => rfl) (fun r196 u196 H locs hw hP hD hS => ?_)
        have hP : va_P (dC, dI) classes (WS_M_translate cI cL cZ h0 a_currency a_sort a_closing a_average a_held a_sum a_told a_left a_step a_outside a_item v_thrown v_companies v_accounts v_done v_items v_currency v_sort v_closing v_average v_sum v_told v_left_13) H := hP
        have hD : va_D A (WS_M_translate cI cL cZ h0 a_currency a_sort a_closing a_average a_held a_sum a_told a_left a_step a_outside a_item v_thrown v_companies v_accounts v_done v_items v_currency v_sort v_closing v_average v_sum v_told v_left_13) := hD
        refine lv_lload hx hb d_M_translate_199 (lv_at hl 4 rfl) ?_
        refine lv_lneg hx hb d_M_translate_201 ?_
        obtain ⟨hi, hw⟩ := hw
        refine va_last hx hb hK hP hD hS 7 1 rfl rfl hi d_M_translate_202 (fun H locs hP hD hS => ?_)
        have hP : va_P (dC, dI) classes (WS_M_translate cI cL cZ h0 a_currency a_sort a_closing a_average a_held a_sum a_told a_left a_step a_outside a_item v_thrown v_companies v_accounts v_done v_items v_currency v_sort v_closing v_average v_sum v_told (vp_updL v_left_13 r196.toNatClampNeg (-l4_13))) H := hP
        have hD : va_D A (WS_M_translate cI cL cZ h0 a_currency a_sort a_closing a_average a_held a_sum a_told a_left a_step a_outside a_item v_thrown v_companies v_accounts v_done v_items v_currency v_sort v_closing v_average v_sum v_told (vp_updL v_left_13 r196.toNatClampNeg (-l4_13))) := hD
        exact W.vret hx hb hr (fun t ht hW => ⟨⟨(vp_updL v_left_13 r196.toNatClampNeg (-l4_13)), rfl, hw, ⟨by rw [ht]; exact hP, hD⟩⟩, hS.F ht⟩) hS.2.2 d_M_translate_203
      ·
        have hw := hw.2 hc
        refine lv_iload hx hb d_M_translate_22 (lv_at hl 5 rfl) ?_
        refine lv_iload_n hx hb d_M_translate_24 rfl (lv_at hl 2 rfl) ?_
        refine lv_icmp_ne (tgt := 31) hx hb d_M_translate_25 rfl (fun hc => ?_) (fun hc => ?_)
        ·
          have hw := hw.1 hc
          refine lv_iconst (v := (-1)) hx hb d_M_translate_31 (by decide) ?_
          refine lv_istore (lv' := [(7, .int (-1)), (0, .ref h0), (1, .int p0), (2, .int p1), (3, .int x6), (4, .long l4_13), (6, .int l6_13)]) hx hb d_M_translate_32 hl (by decide) rfl (fun ls hl => ?_)
          have hl := lv_sub hl [1, 2, 3, 4, 5, 6, 0] rfl
          obtain ⟨I34, μ34, hi34, hs34⟩ := hw
          have L34 : ∀ (n : Nat) (l7_34 : Int32) (v_left_34 : (Nat → Int64)) (H : Heap) (locs : List Loc) (ls : Array Slot), μ34 l7_34 v_left_34 < n → I34 l7_34 v_left_34 → lv_has ls 8 [(0, .ref h0), (1, .int p0), (2, .int p1), (3, .int x6), (4, .long l4_13), (6, .int l6_13), (7, .int l7_34)] → va_P (dC, dI) classes (WS_M_translate cI cL cZ h0 a_currency a_sort a_closing a_average a_held a_sum a_told a_left a_step a_outside a_item v_thrown v_companies v_accounts v_done v_items v_currency v_sort v_closing v_average v_sum v_told v_left_34) H → va_D A (WS_M_translate cI cL cZ h0 a_currency a_sort a_closing a_average a_held a_sum a_told a_left a_step a_outside a_item v_thrown v_companies v_accounts v_done v_items v_currency v_sort v_closing v_average v_sum v_told v_left_34) → va_S A s.heap H locs → W p l e (headSpec ws_M_translate rm_M_translate).room s m ([.ref h0, .int p0, .int p1] : List Value).toArray below meth c H locs 0 0 (MQ below (QC_M_translate dC dI cI cL cZ A h0 a_currency a_sort a_closing a_average a_held a_sum a_told a_left a_step a_outside a_item v_thrown v_companies v_accounts v_done v_items v_currency v_sort v_closing v_average v_sum v_told v_left post) ([.ref h0, .int p0, .int p1] : List Value).toArray s 0 0 A) (F0 m 34 ls []) := by
            intro n
            induction n with
            | zero => intro l7_34 v_left_34 H locs ls hn; exact absurd hn (Nat.not_lt_zero _)
            | succ n ih34 =>
              intro l7_34 v_left_34 H locs ls hn34 hI hl hP hD hS
              have hw := hs34 l7_34 v_left_34 hI
              refine lv_iload hx hb d_M_translate_34 (lv_at hl 6 rfl) ?_
              refine lv_bipush (v := 12) hx hb d_M_translate_36 (by decide) ?_
              refine lv_icmp_ge (tgt := 117) hx hb d_M_translate_38 rfl (fun hc => ?_) (fun hc => ?_)
              ·
                have hw := hw.1 hc
                refine lv_aload_n hx hb d_M_translate_117 rfl (lv_at hl 0 rfl) ?_
                refine va_get (D := (dC, dI)) (ci := 3) (v := .ref a_sort) (C := R_M) (T := F_M) (N := 16) hx hb hts (kx_in in_M) hown hK hP 0 rfl rfl 4 (by decide) (hts _ (kx_w iw_479)) (fun _ h9 => h9) rfl d_M_translate_118 ?_
                refine lv_iload hx hb d_M_translate_121 (lv_at hl 5 rfl) ?_
                obtain ⟨hi, hw⟩ := hw
                refine va_iald hx hb hK hP 2 0 rfl rfl hi d_M_translate_123 ?_
                refine lv_iconst (v := 3) hx hb d_M_translate_124 (by decide) ?_
                refine lv_icmp_ne (tgt := 171) hx hb d_M_translate_125 rfl (fun hc => ?_) (fun hc => ?_)
                ·
                  have hw := hw.1 hc
                  refine lv_lload hx hb d_M_translate_171 (lv_at hl 4 rfl) ?_
                  refine lv_aload_n hx hb d_M_translate_173 rfl (lv_at hl 0 rfl) ?_
                  refine lv_iload_n hx hb d_M_translate_174 rfl (lv_at hl 1 rfl) ?_
                  refine lv_iload hx hb d_M_translate_175 (lv_at hl 5 rfl) ?_
                  refine kx_calll (ws' := fun u177 => (WS_M_translate cI cL cZ h0 a_currency a_sort a_closing a_average a_held a_sum a_told a_left a_step a_outside a_item v_thrown v_companies v_accounts v_done v_items v_currency v_sort v_closing v_average v_sum v_told v_left_34)) (va_runV (As := [.int p0, .int l6_13]) (rest := [.long l4_13]) ⟨hx, hb, hml, hown, hts⟩ (c_M_total l dC dI cI cL cZ h0 a_currency a_sort a_closing a_average a_held a_sum a_told a_left a_step a_outside a_item v_thrown v_companies v_accounts v_done v_items v_left_34 H.size p0 l6_13 hw) ⟨(callB_of 2 hts (kx_good iw_628) rfl rfl rfl (hts _ (kx_w iw_4)) (hts _ (kx_w iw_625)) (by decide +kernel) ⟨Nat.le_of_ble_eq_true rfl, Nat.le_of_ble_eq_true rfl⟩), (hts _ (kx_w iw_627)), (hts _ (kx_w sl_M_total))⟩ (kx_preV hN hK hP hD [0, 7] (by decide) rfl 0 rfl rfl) rfl rfl hl.1 rfl (lv_room (Nat.le_of_ble_eq_true rfl)) d_M_translate_177 ⟨Nat.le_of_ble_eq_true rfl, Nat.le_of_ble_eq_true rfl⟩) hP hD hS hA [0, 7] [1, 2, 3, 4, 5, 6] rfl rfl (by decide) (by decide) [6, 0, 1, 2, 3, 4, 5, 7] (by decide) (fun _ => rfl) (fun r177 u177 H locs hw hP hD hS => ?_)
                  have hP : va_P (dC, dI) classes (WS_M_translate cI cL cZ h0 a_currency a_sort a_closing a_average a_held a_sum a_told a_left a_step a_outside a_item v_thrown v_companies v_accounts v_done v_items v_currency v_sort v_closing v_average v_sum v_told v_left_34) H := hP
                  have hD : va_D A (WS_M_translate cI cL cZ h0 a_currency a_sort a_closing a_average a_held a_sum a_told a_left a_step a_outside a_item v_thrown v_companies v_accounts v_done v_items v_currency v_sort v_closing v_average v_sum v_told v_left_34) := hD
                  refine lv_ladd hx hb d_M_translate_180 ?_
                  refine lv_topl (fun x181 e181 => ?_)
                  have hw := hw x181 e181
                  refine lv_lstore (lv' := [(4, .long x181), (0, .ref h0), (1, .int p0), (2, .int p1), (3, .int x6), (6, .int l6_13), (7, .int l7_34)]) hx hb d_M_translate_181 hl (by decide) rfl (fun ls hl => ?_)
                  refine lv_iinc (v := (l6_13 + 1)) (lv' := [(6, .int (l6_13 + 1)), (4, .long x181), (0, .ref h0), (1, .int p0), (2, .int p1), (3, .int x6), (7, .int l7_34)]) hx hb d_M_translate_183 hl (k := 5) rfl rfl (by decide) rfl (fun ls hl => ?_)
                  refine lv_goto (tgt := 13) hx hb d_M_translate_186 rfl ?_
                  have hl := lv_sub hl [2, 3, 4, 5, 1, 0] rfl
                  exact ih13 x181 (l6_13 + 1) v_left_34 _ _ _ (Nat.lt_of_lt_of_le hw.2 (Nat.le_of_lt_succ hn13)) hw.1 hl hP hD hS
                ·
                  have hw := hw.2 hc
                  refine lv_aload_n hx hb d_M_translate_128 rfl (lv_at hl 0 rfl) ?_
                  refine va_get (D := (dC, dI)) (ci := 3) (v := .ref a_left) (C := R_M) (T := F_M) (N := 16) hx hb hts (kx_in in_M) hown hK hP 0 rfl rfl 11 (by decide) (hts _ (kx_w iw_486)) (fun _ h9 => h9) rfl d_M_translate_129 ?_
                  refine lv_iload_n hx hb d_M_translate_132 rfl (lv_at hl 1 rfl) ?_
                  refine lv_iload hx hb d_M_translate_133 (lv_at hl 5 rfl) ?_
                  refine lv_iconst (v := (-1)) hx hb d_M_translate_135 (by decide) ?_
                  refine kx_calli (ws' := fun u136 => (WS_M_translate cI cL cZ h0 a_currency a_sort a_closing a_average a_held a_sum a_told a_left a_step a_outside a_item v_thrown v_companies v_accounts v_done v_items v_currency v_sort v_closing v_average v_sum v_told v_left_34)) (va_runS (As := [.int p0, .int l6_13, .int (-1)]) (rest := [.ref a_left]) ⟨hx, hb, hml, hown, hts⟩ (c_M_cell l dC dI cI cL cZ  H.size p0 l6_13 (-1) hw) ⟨(callB_of 3 hts (kx_good iw_573) rfl rfl rfl (hts _ (kx_w iw_4)) (hts _ (kx_w iw_571)) (by decide +kernel) ⟨Nat.le_of_ble_eq_true rfl, Nat.le_of_ble_eq_true rfl⟩), (hts _ (kx_w iw_572))⟩ (kx_preS hN hK hP hD [] (by decide) rfl) rfl rfl hl.1 rfl (lv_room (Nat.le_of_ble_eq_true rfl)) d_M_translate_136 ⟨Nat.le_of_ble_eq_true rfl, Nat.le_of_ble_eq_true rfl⟩) hP hD hS hA [] [0, 1, 2, 3, 4, 5, 6, 7] rfl rfl (by decide) (by decide) [0, 1, 2, 3, 4, 5, 6, 7] (by decide) (fun _ => rfl) (fun r136 u136 H locs hw hP hD hS => ?_)
                  have hP : va_P (dC, dI) classes (WS_M_translate cI cL cZ h0 a_currency a_sort a_closing a_average a_held a_sum a_told a_left a_step a_outside a_item v_thrown v_companies v_accounts v_done v_items v_currency v_sort v_closing v_average v_sum v_told v_left_34) H := hP
                  have hD : va_D A (WS_M_translate cI cL cZ h0 a_currency a_sort a_closing a_average a_held a_sum a_told a_left a_step a_outside a_item v_thrown v_companies v_accounts v_done v_items v_currency v_sort v_closing v_average v_sum v_told v_left_34) := hD
                  refine lv_iload_n hx hb d_M_translate_139 rfl (lv_at hl 3 rfl) ?_
                  refine lv_if_ne (tgt := 158) hx hb d_M_translate_140 rfl (fun hc => ?_) (fun hc => ?_)
                  ·
                    have hw := hw.1 hc
                    refine lv_aload_n hx hb d_M_translate_158 rfl (lv_at hl 0 rfl) ?_
                    refine va_get (D := (dC, dI)) (ci := 3) (v := .ref a_told) (C := R_M) (T := F_M) (N := 16) hx hb hts (kx_in in_M) hown hK hP 0 rfl rfl 9 (by decide) (hts _ (kx_w iw_484)) (fun _ h9 => h9) rfl d_M_translate_159 ?_
                    refine lv_bipush (v := 12) hx hb d_M_translate_162 (by decide) ?_
                    refine lv_iload_n hx hb d_M_translate_164 rfl (lv_at hl 1 rfl) ?_
                    refine lv_imul hx hb d_M_translate_165 ?_
                    refine lv_iload hx hb d_M_translate_166 (lv_at hl 5 rfl) ?_
                    refine lv_iadd hx hb d_M_translate_168 ?_
                    obtain ⟨hi, hw⟩ := hw
                    refine va_lald hx hb hK hP 6 1 rfl rfl hi d_M_translate_169 ?_
                    obtain ⟨hi, hw⟩ := hw
                    refine va_last hx hb hK hP hD hS 7 1 rfl rfl hi d_M_translate_170 (fun H locs hP hD hS => ?_)
                    have hP : va_P (dC, dI) classes (WS_M_translate cI cL cZ h0 a_currency a_sort a_closing a_average a_held a_sum a_told a_left a_step a_outside a_item v_thrown v_companies v_accounts v_done v_items v_currency v_sort v_closing v_average v_sum v_told (vp_updL v_left_34 r136.toNatClampNeg (v_told (Int32.toNatClampNeg ((12 * p0) + l6_13))))) H := hP
                    have hD : va_D A (WS_M_translate cI cL cZ h0 a_currency a_sort a_closing a_average a_held a_sum a_told a_left a_step a_outside a_item v_thrown v_companies v_accounts v_done v_items v_currency v_sort v_closing v_average v_sum v_told (vp_updL v_left_34 r136.toNatClampNeg (v_told (Int32.toNatClampNeg ((12 * p0) + l6_13))))) := hD
                    refine lv_lload hx hb d_M_translate_171 (lv_at hl 4 rfl) ?_
                    refine lv_aload_n hx hb d_M_translate_173 rfl (lv_at hl 0 rfl) ?_
                    refine lv_iload_n hx hb d_M_translate_174 rfl (lv_at hl 1 rfl) ?_
                    refine lv_iload hx hb d_M_translate_175 (lv_at hl 5 rfl) ?_
                    refine kx_calll (ws' := fun u177 => (WS_M_translate cI cL cZ h0 a_currency a_sort a_closing a_average a_held a_sum a_told a_left a_step a_outside a_item v_thrown v_companies v_accounts v_done v_items v_currency v_sort v_closing v_average v_sum v_told (vp_updL v_left_34 r136.toNatClampNeg (v_told (Int32.toNatClampNeg ((12 * p0) + l6_13)))))) (va_runV (As := [.int p0, .int l6_13]) (rest := [.long l4_13]) ⟨hx, hb, hml, hown, hts⟩ (c_M_total l dC dI cI cL cZ h0 a_currency a_sort a_closing a_average a_held a_sum a_told a_left a_step a_outside a_item v_thrown v_companies v_accounts v_done v_items (vp_updL v_left_34 r136.toNatClampNeg (v_told (Int32.toNatClampNeg ((12 * p0) + l6_13)))) H.size p0 l6_13 hw) ⟨(callB_of 2 hts (kx_good iw_628) rfl rfl rfl (hts _ (kx_w iw_4)) (hts _ (kx_w iw_625)) (by decide +kernel) ⟨Nat.le_of_ble_eq_true rfl, Nat.le_of_ble_eq_true rfl⟩), (hts _ (kx_w iw_627)), (hts _ (kx_w sl_M_total))⟩ (kx_preV hN hK hP hD [0, 7] (by decide) rfl 0 rfl rfl) rfl rfl hl.1 rfl (lv_room (Nat.le_of_ble_eq_true rfl)) d_M_translate_177 ⟨Nat.le_of_ble_eq_true rfl, Nat.le_of_ble_eq_true rfl⟩) hP hD hS hA [0, 7] [1, 2, 3, 4, 5, 6] rfl rfl (by decide) (by decide) [6, 0, 1, 2, 3, 4, 5, 7] (by decide) (fun _ => rfl) (fun r177 u177 H locs hw hP hD hS => ?_)
                    have hP : va_P (dC, dI) classes (WS_M_translate cI cL cZ h0 a_currency a_sort a_closing a_average a_held a_sum a_told a_left a_step a_outside a_item v_thrown v_companies v_accounts v_done v_items v_currency v_sort v_closing v_average v_sum v_told (vp_updL v_left_34 r136.toNatClampNeg (v_told (Int32.toNatClampNeg ((12 * p0) + l6_13))))) H := hP
                    have hD : va_D A (WS_M_translate cI cL cZ h0 a_currency a_sort a_closing a_average a_held a_sum a_told a_left a_step a_outside a_item v_thrown v_companies v_accounts v_done v_items v_currency v_sort v_closing v_average v_sum v_told (vp_updL v_left_34 r136.toNatClampNeg (v_told (Int32.toNatClampNeg ((12 * p0) + l6_13))))) := hD
                    refine lv_ladd hx hb d_M_translate_180 ?_
                    refine lv_topl (fun x181 e181 => ?_)
                    have hw := hw x181 e181
                    refine lv_lstore (lv' := [(4, .long x181), (0, .ref h0), (1, .int p0), (2, .int p1), (3, .int x6), (6, .int l6_13), (7, .int l7_34)]) hx hb d_M_translate_181 hl (by decide) rfl (fun ls hl => ?_)
                    refine lv_iinc (v := (l6_13 + 1)) (lv' := [(6, .int (l6_13 + 1)), (4, .long x181), (0, .ref h0), (1, .int p0), (2, .int p1), (3, .int x6), (7, .int l7_34)]) hx hb d_M_translate_183 hl (k := 5) rfl rfl (by decide) rfl (fun ls hl => ?_)
                    refine lv_goto (tgt := 13) hx hb d_M_translate_186 rfl ?_
                    have hl := lv_sub hl [2, 3, 4, 5, 1, 0] rfl
                    exact ih13 x181 (l6_13 + 1) (vp_updL v_left_34 r136.toNatClampNeg (v_told (Int32.toNatClampNeg ((12 * p0) + l6_13)))) _ _ _ (Nat.lt_of_lt_of_le hw.2 (Nat.le_of_lt_succ hn13)) hw.1 hl hP hD hS
                  ·
                    have hw := hw.2 hc
                    refine lv_aload_n hx hb d_M_translate_143 rfl (lv_at hl 0 rfl) ?_
                    refine va_get (D := (dC, dI)) (ci := 3) (v := .ref a_sum) (C := R_M) (T := F_M) (N := 16) hx hb hts (kx_in in_M) hown hK hP 0 rfl rfl 8 (by decide) (hts _ (kx_w iw_483)) (fun _ h9 => h9) rfl d_M_translate_144 ?_
                    refine lv_iload_n hx hb d_M_translate_147 rfl (lv_at hl 1 rfl) ?_
                    refine lv_iload hx hb d_M_translate_148 (lv_at hl 5 rfl) ?_
                    refine lv_iconst (v := (-1)) hx hb d_M_translate_150 (by decide) ?_
                    refine kx_calli (ws' := fun u151 => (WS_M_translate cI cL cZ h0 a_currency a_sort a_closing a_average a_held a_sum a_told a_left a_step a_outside a_item v_thrown v_companies v_accounts v_done v_items v_currency v_sort v_closing v_average v_sum v_told v_left_34)) (va_runS (As := [.int p0, .int l6_13, .int (-1)]) (rest := [.ref a_sum, .int r136, .ref a_left]) ⟨hx, hb, hml, hown, hts⟩ (c_M_cell l dC dI cI cL cZ  H.size p0 l6_13 (-1) hw) ⟨(callB_of 3 hts (kx_good iw_573) rfl rfl rfl (hts _ (kx_w iw_4)) (hts _ (kx_w iw_571)) (by decide +kernel) ⟨Nat.le_of_ble_eq_true rfl, Nat.le_of_ble_eq_true rfl⟩), (hts _ (kx_w iw_572))⟩ (kx_preS hN hK hP hD [] (by decide) rfl) rfl rfl hl.1 rfl (lv_room (Nat.le_of_ble_eq_true rfl)) d_M_translate_151 ⟨Nat.le_of_ble_eq_true rfl, Nat.le_of_ble_eq_true rfl⟩) hP hD hS hA [] [0, 1, 2, 3, 4, 5, 6, 7] rfl rfl (by decide) (by decide) [0, 1, 2, 3, 4, 5, 6, 7] (by decide) (fun _ => rfl) (fun r151 u151 H locs hw hP hD hS => ?_)
                    have hP : va_P (dC, dI) classes (WS_M_translate cI cL cZ h0 a_currency a_sort a_closing a_average a_held a_sum a_told a_left a_step a_outside a_item v_thrown v_companies v_accounts v_done v_items v_currency v_sort v_closing v_average v_sum v_told v_left_34) H := hP
                    have hD : va_D A (WS_M_translate cI cL cZ h0 a_currency a_sort a_closing a_average a_held a_sum a_told a_left a_step a_outside a_item v_thrown v_companies v_accounts v_done v_items v_currency v_sort v_closing v_average v_sum v_told v_left_34) := hD
                    obtain ⟨hi, hw⟩ := hw
                    refine va_lald hx hb hK hP 5 1 rfl rfl hi d_M_translate_154 ?_
                    refine lv_goto (tgt := 170) hx hb d_M_translate_155 rfl ?_
                    obtain ⟨hi, hw⟩ := hw
                    refine va_last hx hb hK hP hD hS 7 1 rfl rfl hi d_M_translate_170 (fun H locs hP hD hS => ?_)
                    have hP : va_P (dC, dI) classes (WS_M_translate cI cL cZ h0 a_currency a_sort a_closing a_average a_held a_sum a_told a_left a_step a_outside a_item v_thrown v_companies v_accounts v_done v_items v_currency v_sort v_closing v_average v_sum v_told (vp_updL v_left_34 r136.toNatClampNeg (v_sum r151.toNatClampNeg))) H := hP
                    have hD : va_D A (WS_M_translate cI cL cZ h0 a_currency a_sort a_closing a_average a_held a_sum a_told a_left a_step a_outside a_item v_thrown v_companies v_accounts v_done v_items v_currency v_sort v_closing v_average v_sum v_told (vp_updL v_left_34 r136.toNatClampNeg (v_sum r151.toNatClampNeg))) := hD
                    refine lv_lload hx hb d_M_translate_171 (lv_at hl 4 rfl) ?_
                    refine lv_aload_n hx hb d_M_translate_173 rfl (lv_at hl 0 rfl) ?_
                    refine lv_iload_n hx hb d_M_translate_174 rfl (lv_at hl 1 rfl) ?_
                    refine lv_iload hx hb d_M_translate_175 (lv_at hl 5 rfl) ?_
                    refine kx_calll (ws' := fun u177 => (WS_M_translate cI cL cZ h0 a_currency a_sort a_closing a_average a_held a_sum a_told a_left a_step a_outside a_item v_thrown v_companies v_accounts v_done v_items v_currency v_sort v_closing v_average v_sum v_told (vp_updL v_left_34 r136.toNatClampNeg (v_sum r151.toNatClampNeg)))) (va_runV (As := [.int p0, .int l6_13]) (rest := [.long l4_13]) ⟨hx, hb, hml, hown, hts⟩ (c_M_total l dC dI cI cL cZ h0 a_currency a_sort a_closing a_average a_held a_sum a_told a_left a_step a_outside a_item v_thrown v_companies v_accounts v_done v_items (vp_updL v_left_34 r136.toNatClampNeg (v_sum r151.toNatClampNeg)) H.size p0 l6_13 hw) ⟨(callB_of 2 hts (kx_good iw_628) rfl rfl rfl (hts _ (kx_w iw_4)) (hts _ (kx_w iw_625)) (by decide +kernel) ⟨Nat.le_of_ble_eq_true rfl, Nat.le_of_ble_eq_true rfl⟩), (hts _ (kx_w iw_627)), (hts _ (kx_w sl_M_total))⟩ (kx_preV hN hK hP hD [0, 7] (by decide) rfl 0 rfl rfl) rfl rfl hl.1 rfl (lv_room (Nat.le_of_ble_eq_true rfl)) d_M_translate_177 ⟨Nat.le_of_ble_eq_true rfl, Nat.le_of_ble_eq_true rfl⟩) hP hD hS hA [0, 7] [1, 2, 3, 4, 5, 6] rfl rfl (by decide) (by decide) [6, 0, 1, 2, 3, 4, 5, 7] (by decide) (fun _ => rfl) (fun r177 u177 H locs hw hP hD hS => ?_)
                    have hP : va_P (dC, dI) classes (WS_M_translate cI cL cZ h0 a_currency a_sort a_closing a_average a_held a_sum a_told a_left a_step a_outside a_item v_thrown v_companies v_accounts v_done v_items v_currency v_sort v_closing v_average v_sum v_told (vp_updL v_left_34 r136.toNatClampNeg (v_sum r151.toNatClampNeg))) H := hP
                    have hD : va_D A (WS_M_translate cI cL cZ h0 a_currency a_sort a_closing a_average a_held a_sum a_told a_left a_step a_outside a_item v_thrown v_companies v_accounts v_done v_items v_currency v_sort v_closing v_average v_sum v_told (vp_updL v_left_34 r136.toNatClampNeg (v_sum r151.toNatClampNeg))) := hD
                    refine lv_ladd hx hb d_M_translate_180 ?_
                    refine lv_topl (fun x181 e181 => ?_)
                    have hw := hw x181 e181
                    refine lv_lstore (lv' := [(4, .long x181), (0, .ref h0), (1, .int p0), (2, .int p1), (3, .int x6), (6, .int l6_13), (7, .int l7_34)]) hx hb d_M_translate_181 hl (by decide) rfl (fun ls hl => ?_)
                    refine lv_iinc (v := (l6_13 + 1)) (lv' := [(6, .int (l6_13 + 1)), (4, .long x181), (0, .ref h0), (1, .int p0), (2, .int p1), (3, .int x6), (7, .int l7_34)]) hx hb d_M_translate_183 hl (k := 5) rfl rfl (by decide) rfl (fun ls hl => ?_)
                    refine lv_goto (tgt := 13) hx hb d_M_translate_186 rfl ?_
                    have hl := lv_sub hl [2, 3, 4, 5, 1, 0] rfl
                    exact ih13 x181 (l6_13 + 1) (vp_updL v_left_34 r136.toNatClampNeg (v_sum r151.toNatClampNeg)) _ _ _ (Nat.lt_of_lt_of_le hw.2 (Nat.le_of_lt_succ hn13)) hw.1 hl hP hD hS
              ·
                have hw := hw.2 hc
                refine lv_aload_n hx hb d_M_translate_41 rfl (lv_at hl 0 rfl) ?_
                refine va_get (D := (dC, dI)) (ci := 3) (v := .ref a_left) (C := R_M) (T := F_M) (N := 16) hx hb hts (kx_in in_M) hown hK hP 0 rfl rfl 11 (by decide) (hts _ (kx_w iw_486)) (fun _ h9 => h9) rfl d_M_translate_42 ?_
                refine lv_iload_n hx hb d_M_translate_45 rfl (lv_at hl 1 rfl) ?_
                refine lv_iload hx hb d_M_translate_46 (lv_at hl 5 rfl) ?_
                refine lv_iload hx hb d_M_translate_48 (lv_at hl 6 rfl) ?_
                refine kx_calli (ws' := fun u50 => (WS_M_translate cI cL cZ h0 a_currency a_sort a_closing a_average a_held a_sum a_told a_left a_step a_outside a_item v_thrown v_companies v_accounts v_done v_items v_currency v_sort v_closing v_average v_sum v_told v_left_34)) (va_runS (As := [.int p0, .int l6_13, .int l7_34]) (rest := [.ref a_left]) ⟨hx, hb, hml, hown, hts⟩ (c_M_cell l dC dI cI cL cZ  H.size p0 l6_13 l7_34 hw) ⟨(callB_of 3 hts (kx_good iw_573) rfl rfl rfl (hts _ (kx_w iw_4)) (hts _ (kx_w iw_571)) (by decide +kernel) ⟨Nat.le_of_ble_eq_true rfl, Nat.le_of_ble_eq_true rfl⟩), (hts _ (kx_w iw_572))⟩ (kx_preS hN hK hP hD [] (by decide) rfl) rfl rfl hl.1 rfl (lv_room (Nat.le_of_ble_eq_true rfl)) d_M_translate_50 ⟨Nat.le_of_ble_eq_true rfl, Nat.le_of_ble_eq_true rfl⟩) hP hD hS hA [] [0, 1, 2, 3, 4, 5, 6, 7] rfl rfl (by decide) (by decide) [0, 1, 2, 3, 4, 5, 6, 7] (by decide) (fun _ => rfl) (fun r50 u50 H locs hw hP hD hS => ?_)
                have hP : va_P (dC, dI) classes (WS_M_translate cI cL cZ h0 a_currency a_sort a_closing a_average a_held a_sum a_told a_left a_step a_outside a_item v_thrown v_companies v_accounts v_done v_items v_currency v_sort v_closing v_average v_sum v_told v_left_34) H := hP
                have hD : va_D A (WS_M_translate cI cL cZ h0 a_currency a_sort a_closing a_average a_held a_sum a_told a_left a_step a_outside a_item v_thrown v_companies v_accounts v_done v_items v_currency v_sort v_closing v_average v_sum v_told v_left_34) := hD
                refine lv_aload_n hx hb d_M_translate_53 rfl (lv_at hl 0 rfl) ?_
                refine va_get (D := (dC, dI)) (ci := 3) (v := .ref a_sort) (C := R_M) (T := F_M) (N := 16) hx hb hts (kx_in in_M) hown hK hP 0 rfl rfl 4 (by decide) (hts _ (kx_w iw_479)) (fun _ h9 => h9) rfl d_M_translate_54 ?_
                refine lv_iload hx hb d_M_translate_57 (lv_at hl 5 rfl) ?_
                obtain ⟨hi, hw⟩ := hw
                refine va_iald hx hb hK hP 2 0 rfl rfl hi d_M_translate_59 ?_
                refine lv_iconst (v := 3) hx hb d_M_translate_60 (by decide) ?_
                refine lv_icmp_ne (tgt := 68) hx hb d_M_translate_61 rfl (fun hc => ?_) (fun hc => ?_)
                ·
                  have hw := hw.1 hc
                  refine lv_aload_n hx hb d_M_translate_68 rfl (lv_at hl 0 rfl) ?_
                  refine va_get (D := (dC, dI)) (ci := 3) (v := .ref a_sum) (C := R_M) (T := F_M) (N := 16) hx hb hts (kx_in in_M) hown hK hP 0 rfl rfl 8 (by decide) (hts _ (kx_w iw_483)) (fun _ h9 => h9) rfl d_M_translate_69 ?_
                  refine lv_iload_n hx hb d_M_translate_72 rfl (lv_at hl 1 rfl) ?_
                  refine lv_iload hx hb d_M_translate_73 (lv_at hl 5 rfl) ?_
                  refine lv_iload hx hb d_M_translate_75 (lv_at hl 6 rfl) ?_
                  refine kx_calli (ws' := fun u77 => (WS_M_translate cI cL cZ h0 a_currency a_sort a_closing a_average a_held a_sum a_told a_left a_step a_outside a_item v_thrown v_companies v_accounts v_done v_items v_currency v_sort v_closing v_average v_sum v_told v_left_34)) (va_runS (As := [.int p0, .int l6_13, .int l7_34]) (rest := [.ref a_sum, .int r50, .ref a_left]) ⟨hx, hb, hml, hown, hts⟩ (c_M_cell l dC dI cI cL cZ  H.size p0 l6_13 l7_34 hw) ⟨(callB_of 3 hts (kx_good iw_573) rfl rfl rfl (hts _ (kx_w iw_4)) (hts _ (kx_w iw_571)) (by decide +kernel) ⟨Nat.le_of_ble_eq_true rfl, Nat.le_of_ble_eq_true rfl⟩), (hts _ (kx_w iw_572))⟩ (kx_preS hN hK hP hD [] (by decide) rfl) rfl rfl hl.1 rfl (lv_room (Nat.le_of_ble_eq_true rfl)) d_M_translate_77 ⟨Nat.le_of_ble_eq_true rfl, Nat.le_of_ble_eq_true rfl⟩) hP hD hS hA [] [0, 1, 2, 3, 4, 5, 6, 7] rfl rfl (by decide) (by decide) [0, 1, 2, 3, 4, 5, 6, 7] (by decide) (fun _ => rfl) (fun r77 u77 H locs hw hP hD hS => ?_)
                  have hP : va_P (dC, dI) classes (WS_M_translate cI cL cZ h0 a_currency a_sort a_closing a_average a_held a_sum a_told a_left a_step a_outside a_item v_thrown v_companies v_accounts v_done v_items v_currency v_sort v_closing v_average v_sum v_told v_left_34) H := hP
                  have hD : va_D A (WS_M_translate cI cL cZ h0 a_currency a_sort a_closing a_average a_held a_sum a_told a_left a_step a_outside a_item v_thrown v_companies v_accounts v_done v_items v_currency v_sort v_closing v_average v_sum v_told v_left_34) := hD
                  obtain ⟨hi, hw⟩ := hw
                  refine va_lald hx hb hK hP 5 1 rfl rfl hi d_M_translate_80 ?_
                  refine lv_aload_n hx hb d_M_translate_81 rfl (lv_at hl 0 rfl) ?_
                  refine va_get (D := (dC, dI)) (ci := 3) (v := .ref a_sort) (C := R_M) (T := F_M) (N := 16) hx hb hts (kx_in in_M) hown hK hP 0 rfl rfl 4 (by decide) (hts _ (kx_w iw_479)) (fun _ h9 => h9) rfl d_M_translate_82 ?_
                  refine lv_iload hx hb d_M_translate_85 (lv_at hl 5 rfl) ?_
                  obtain ⟨hi, hw⟩ := hw
                  refine va_iald hx hb hK hP 2 0 rfl rfl hi d_M_translate_87 ?_
                  refine lv_iconst (v := 1) hx hb d_M_translate_88 (by decide) ?_
                  refine lv_icmp_ne (tgt := 101) hx hb d_M_translate_89 rfl (fun hc => ?_) (fun hc => ?_)
                  ·
                    have hw := hw.1 hc
                    refine lv_aload_n hx hb d_M_translate_101 rfl (lv_at hl 0 rfl) ?_
                    refine va_get (D := (dC, dI)) (ci := 3) (v := .ref a_average) (C := R_M) (T := F_M) (N := 16) hx hb hts (kx_in in_M) hown hK hP 0 rfl rfl 6 (by decide) (hts _ (kx_w iw_481)) (fun _ h9 => h9) rfl d_M_translate_102 ?_
                    refine lv_iload_n hx hb d_M_translate_105 rfl (lv_at hl 3 rfl) ?_
                    obtain ⟨hi, hw⟩ := hw
                    refine va_iald hx hb hK hP 4 0 rfl rfl hi d_M_translate_106 ?_
                    refine kx_calll (ws' := fun u107 => (WS_M_translate cI cL cZ h0 a_currency a_sort a_closing a_average a_held a_sum a_told a_left a_step a_outside a_item v_thrown v_companies v_accounts v_done v_items v_currency v_sort v_closing v_average v_sum v_told v_left_34)) (va_runS (As := [.long (v_sum r77.toNatClampNeg), .int (v_average x6.toNatClampNeg)]) (rest := [.int r50, .ref a_left]) ⟨hx, hb, hml, hown, hts⟩ (c_M_translated l dC dI cI cL cZ  H.size (v_sum r77.toNatClampNeg) (v_average x6.toNatClampNeg) hw) ⟨(callB_of 2 hts (kx_good iw_622) rfl rfl rfl (hts _ (kx_w iw_4)) (hts _ (kx_w iw_620)) (by decide +kernel) ⟨Nat.le_of_ble_eq_true rfl, Nat.le_of_ble_eq_true rfl⟩), (hts _ (kx_w iw_621))⟩ (kx_preS hN hK hP hD [] (by decide) rfl) rfl rfl hl.1 rfl (lv_room (Nat.le_of_ble_eq_true rfl)) d_M_translate_107 ⟨Nat.le_of_ble_eq_true rfl, Nat.le_of_ble_eq_true rfl⟩) hP hD hS hA [] [0, 1, 2, 3, 4, 5, 6, 7] rfl rfl (by decide) (by decide) [0, 1, 2, 3, 4, 5, 6, 7] (by decide) (fun _ => rfl) (fun r107 u107 H locs hw hP hD hS => ?_)
                    have hP : va_P (dC, dI) classes (WS_M_translate cI cL cZ h0 a_currency a_sort a_closing a_average a_held a_sum a_told a_left a_step a_outside a_item v_thrown v_companies v_accounts v_done v_items v_currency v_sort v_closing v_average v_sum v_told v_left_34) H := hP
                    have hD : va_D A (WS_M_translate cI cL cZ h0 a_currency a_sort a_closing a_average a_held a_sum a_told a_left a_step a_outside a_item v_thrown v_companies v_accounts v_done v_items v_currency v_sort v_closing v_average v_sum v_told v_left_34) := hD
                    obtain ⟨hi, hw⟩ := hw
                    refine va_last hx hb hK hP hD hS 7 1 rfl rfl hi d_M_translate_110 (fun H locs hP hD hS => ?_)
                    have hP : va_P (dC, dI) classes (WS_M_translate cI cL cZ h0 a_currency a_sort a_closing a_average a_held a_sum a_told a_left a_step a_outside a_item v_thrown v_companies v_accounts v_done v_items v_currency v_sort v_closing v_average v_sum v_told (vp_updL v_left_34 r50.toNatClampNeg r107)) H := hP
                    have hD : va_D A (WS_M_translate cI cL cZ h0 a_currency a_sort a_closing a_average a_held a_sum a_told a_left a_step a_outside a_item v_thrown v_companies v_accounts v_done v_items v_currency v_sort v_closing v_average v_sum v_told (vp_updL v_left_34 r50.toNatClampNeg r107)) := hD
                    refine lv_iinc (v := (l7_34 + 1)) (lv' := [(7, .int (l7_34 + 1)), (0, .ref h0), (1, .int p0), (2, .int p1), (3, .int x6), (4, .long l4_13), (6, .int l6_13)]) hx hb d_M_translate_111 hl (k := 6) rfl rfl (by decide) rfl (fun ls hl => ?_)
                    refine lv_goto (tgt := 34) hx hb d_M_translate_114 rfl ?_
                    have hl := lv_sub hl [1, 2, 3, 4, 5, 6, 0] rfl
                    exact ih34 (l7_34 + 1) (vp_updL v_left_34 r50.toNatClampNeg r107) _ _ _ (Nat.lt_of_lt_of_le hw.2 (Nat.le_of_lt_succ hn34)) hw.1 hl hP hD hS
                  ·
                    have hw := hw.2 hc
                    refine lv_aload_n hx hb d_M_translate_92 rfl (lv_at hl 0 rfl) ?_
                    refine va_get (D := (dC, dI)) (ci := 3) (v := .ref a_closing) (C := R_M) (T := F_M) (N := 16) hx hb hts (kx_in in_M) hown hK hP 0 rfl rfl 5 (by decide) (hts _ (kx_w iw_480)) (fun _ h9 => h9) rfl d_M_translate_93 ?_
                    refine lv_iload_n hx hb d_M_translate_96 rfl (lv_at hl 3 rfl) ?_
                    obtain ⟨hi, hw⟩ := hw
                    refine va_iald hx hb hK hP 3 0 rfl rfl hi d_M_translate_97 ?_
                    refine lv_goto (tgt := 107) hx hb d_M_translate_98 rfl ?_
                    refine kx_calll (ws' := fun u107 => (WS_M_translate cI cL cZ h0 a_currency a_sort a_closing a_average a_held a_sum a_told a_left a_step a_outside a_item v_thrown v_companies v_accounts v_done v_items v_currency v_sort v_closing v_average v_sum v_told v_left_34)) (va_runS (As := [.long (v_sum r77.toNatClampNeg), .int (v_closing x6.toNatClampNeg)]) (rest := [.int r50, .ref a_left]) ⟨hx, hb, hml, hown, hts⟩ (c_M_translated l dC dI cI cL cZ  H.size (v_sum r77.toNatClampNeg) (v_closing x6.toNatClampNeg) hw) ⟨(callB_of 2 hts (kx_good iw_622) rfl rfl rfl (hts _ (kx_w iw_4)) (hts _ (kx_w iw_620)) (by decide +kernel) ⟨Nat.le_of_ble_eq_true rfl, Nat.le_of_ble_eq_true rfl⟩), (hts _ (kx_w iw_621))⟩ (kx_preS hN hK hP hD [] (by decide) rfl) rfl rfl hl.1 rfl (lv_room (Nat.le_of_ble_eq_true rfl)) d_M_translate_107 ⟨Nat.le_of_ble_eq_true rfl, Nat.le_of_ble_eq_true rfl⟩) hP hD hS hA [] [0, 1, 2, 3, 4, 5, 6, 7] rfl rfl (by decide) (by decide) [0, 1, 2, 3, 4, 5, 6, 7] (by decide) (fun _ => rfl) (fun r107 u107 H locs hw hP hD hS => ?_)
                    have hP : va_P (dC, dI) classes (WS_M_translate cI cL cZ h0 a_currency a_sort a_closing a_average a_held a_sum a_told a_left a_step a_outside a_item v_thrown v_companies v_accounts v_done v_items v_currency v_sort v_closing v_average v_sum v_told v_left_34) H := hP
                    have hD : va_D A (WS_M_translate cI cL cZ h0 a_currency a_sort a_closing a_average a_held a_sum a_told a_left a_step a_outside a_item v_thrown v_companies v_accounts v_done v_items v_currency v_sort v_closing v_average v_sum v_told v_left_34) := hD
                    obtain ⟨hi, hw⟩ := hw
                    refine va_last hx hb hK hP hD hS 7 1 rfl rfl hi d_M_translate_110 (fun H locs hP hD hS => ?_)
                    have hP : va_P (dC, dI) classes (WS_M_translate cI cL cZ h0 a_currency a_sort a_closing a_average a_held a_sum a_told a_left a_step a_outside a_item v_thrown v_companies v_accounts v_done v_items v_currency v_sort v_closing v_average v_sum v_told (vp_updL v_left_34 r50.toNatClampNeg r107)) H := hP
                    have hD : va_D A (WS_M_translate cI cL cZ h0 a_currency a_sort a_closing a_average a_held a_sum a_told a_left a_step a_outside a_item v_thrown v_companies v_accounts v_done v_items v_currency v_sort v_closing v_average v_sum v_told (vp_updL v_left_34 r50.toNatClampNeg r107)) := hD
                    refine lv_iinc (v := (l7_34 + 1)) (lv' := [(7, .int (l7_34 + 1)), (0, .ref h0), (1, .int p0), (2, .int p1), (3, .int x6), (4, .long l4_13), (6, .int l6_13)]) hx hb d_M_translate_111 hl (k := 6) rfl rfl (by decide) rfl (fun ls hl => ?_)
                    refine lv_goto (tgt := 34) hx hb d_M_translate_114 rfl ?_
                    have hl := lv_sub hl [1, 2, 3, 4, 5, 6, 0] rfl
                    exact ih34 (l7_34 + 1) (vp_updL v_left_34 r50.toNatClampNeg r107) _ _ _ (Nat.lt_of_lt_of_le hw.2 (Nat.le_of_lt_succ hn34)) hw.1 hl hP hD hS
                ·
                  have hw := hw.2 hc
                  refine lv_lconst (v := 0) hx hb d_M_translate_64 (by decide) ?_
                  refine lv_goto (tgt := 110) hx hb d_M_translate_65 rfl ?_
                  obtain ⟨hi, hw⟩ := hw
                  refine va_last hx hb hK hP hD hS 7 1 rfl rfl hi d_M_translate_110 (fun H locs hP hD hS => ?_)
                  have hP : va_P (dC, dI) classes (WS_M_translate cI cL cZ h0 a_currency a_sort a_closing a_average a_held a_sum a_told a_left a_step a_outside a_item v_thrown v_companies v_accounts v_done v_items v_currency v_sort v_closing v_average v_sum v_told (vp_updL v_left_34 r50.toNatClampNeg 0)) H := hP
                  have hD : va_D A (WS_M_translate cI cL cZ h0 a_currency a_sort a_closing a_average a_held a_sum a_told a_left a_step a_outside a_item v_thrown v_companies v_accounts v_done v_items v_currency v_sort v_closing v_average v_sum v_told (vp_updL v_left_34 r50.toNatClampNeg 0)) := hD
                  refine lv_iinc (v := (l7_34 + 1)) (lv' := [(7, .int (l7_34 + 1)), (0, .ref h0), (1, .int p0), (2, .int p1), (3, .int x6), (4, .long l4_13), (6, .int l6_13)]) hx hb d_M_translate_111 hl (k := 6) rfl rfl (by decide) rfl (fun ls hl => ?_)
                  refine lv_goto (tgt := 34) hx hb d_M_translate_114 rfl ?_
                  have hl := lv_sub hl [1, 2, 3, 4, 5, 6, 0] rfl
                  exact ih34 (l7_34 + 1) (vp_updL v_left_34 r50.toNatClampNeg 0) _ _ _ (Nat.lt_of_lt_of_le hw.2 (Nat.le_of_lt_succ hn34)) hw.1 hl hP hD hS
          exact L34 _ (-1) v_left_13 _ _ _ (Nat.lt_succ_self _) hi34 hl hP hD hS
        ·
          have hw := hw.2 hc
          refine lv_goto (tgt := 183) hx hb d_M_translate_28 rfl ?_
          refine lv_iinc (v := (l6_13 + 1)) (lv' := [(6, .int (l6_13 + 1)), (0, .ref h0), (1, .int p0), (2, .int p1), (3, .int x6), (4, .long l4_13)]) hx hb d_M_translate_183 hl (k := 5) rfl rfl (by decide) rfl (fun ls hl => ?_)
          refine lv_goto (tgt := 13) hx hb d_M_translate_186 rfl ?_
          have hl := lv_sub hl [1, 2, 3, 4, 5, 0] rfl
          exact ih13 l4_13 (l6_13 + 1) v_left_13 _ _ _ (Nat.lt_of_lt_of_le hw.2 (Nat.le_of_lt_succ hn13)) hw.1 hl hP hD hS
  exact L13 _ 0 0 v_left _ _ _ (Nat.lt_succ_self _) hi13 hl hP hD hS
/-! ConsolidationDeskModel.open(III)V -/
abbrev y_M_open : MethodName := ⟨"ConsolidationDeskModel", "open", "(III)V"⟩
theorem d_M_open_0 : decode prog_5_method_29_code 0 = .ok (.aload_n 0, 1) := by decide +kernel
theorem d_M_open_1 : decode prog_5_method_29_code 1 = .ok (.getfield 41, 3) := by decide +kernel
theorem d_M_open_4 : decode prog_5_method_29_code 4 = .ok (.iconst 4, 1) := by decide +kernel
theorem d_M_open_5 : decode prog_5_method_29_code 5 = .ok (.aload_n 0, 1) := by decide +kernel
theorem d_M_open_6 : decode prog_5_method_29_code 6 = .ok (.getfield 131, 3) := by decide +kernel
theorem d_M_open_9 : decode prog_5_method_29_code 9 = .ok (.imul, 1) := by decide +kernel
theorem d_M_open_10 : decode prog_5_method_29_code 10 = .ok (.iload_n 1, 1) := by decide +kernel
theorem d_M_open_11 : decode prog_5_method_29_code 11 = .ok (.i2l, 1) := by decide +kernel
theorem d_M_open_12 : decode prog_5_method_29_code 12 = .ok (.lastore, 1) := by decide +kernel
theorem d_M_open_13 : decode prog_5_method_29_code 13 = .ok (.aload_n 0, 1) := by decide +kernel
theorem d_M_open_14 : decode prog_5_method_29_code 14 = .ok (.getfield 41, 3) := by decide +kernel
theorem d_M_open_17 : decode prog_5_method_29_code 17 = .ok (.iconst 4, 1) := by decide +kernel
theorem d_M_open_18 : decode prog_5_method_29_code 18 = .ok (.aload_n 0, 1) := by decide +kernel
theorem d_M_open_19 : decode prog_5_method_29_code 19 = .ok (.getfield 131, 3) := by decide +kernel
theorem d_M_open_22 : decode prog_5_method_29_code 22 = .ok (.imul, 1) := by decide +kernel
theorem d_M_open_23 : decode prog_5_method_29_code 23 = .ok (.iconst 1, 1) := by decide +kernel
theorem d_M_open_24 : decode prog_5_method_29_code 24 = .ok (.iadd, 1) := by decide +kernel
theorem d_M_open_25 : decode prog_5_method_29_code 25 = .ok (.iload_n 2, 1) := by decide +kernel
theorem d_M_open_26 : decode prog_5_method_29_code 26 = .ok (.i2l, 1) := by decide +kernel
theorem d_M_open_27 : decode prog_5_method_29_code 27 = .ok (.lastore, 1) := by decide +kernel
theorem d_M_open_28 : decode prog_5_method_29_code 28 = .ok (.aload_n 0, 1) := by decide +kernel
theorem d_M_open_29 : decode prog_5_method_29_code 29 = .ok (.getfield 41, 3) := by decide +kernel
theorem d_M_open_32 : decode prog_5_method_29_code 32 = .ok (.iconst 4, 1) := by decide +kernel
theorem d_M_open_33 : decode prog_5_method_29_code 33 = .ok (.aload_n 0, 1) := by decide +kernel
theorem d_M_open_34 : decode prog_5_method_29_code 34 = .ok (.getfield 131, 3) := by decide +kernel
theorem d_M_open_37 : decode prog_5_method_29_code 37 = .ok (.imul, 1) := by decide +kernel
theorem d_M_open_38 : decode prog_5_method_29_code 38 = .ok (.iconst 2, 1) := by decide +kernel
theorem d_M_open_39 : decode prog_5_method_29_code 39 = .ok (.iadd, 1) := by decide +kernel
theorem d_M_open_40 : decode prog_5_method_29_code 40 = .ok (.iload_n 3, 1) := by decide +kernel
theorem d_M_open_41 : decode prog_5_method_29_code 41 = .ok (.i2l, 1) := by decide +kernel
theorem d_M_open_42 : decode prog_5_method_29_code 42 = .ok (.lastore, 1) := by decide +kernel
theorem d_M_open_43 : decode prog_5_method_29_code 43 = .ok (.aload_n 0, 1) := by decide +kernel
theorem d_M_open_44 : decode prog_5_method_29_code 44 = .ok (.getfield 41, 3) := by decide +kernel
theorem d_M_open_47 : decode prog_5_method_29_code 47 = .ok (.iconst 4, 1) := by decide +kernel
theorem d_M_open_48 : decode prog_5_method_29_code 48 = .ok (.aload_n 0, 1) := by decide +kernel
theorem d_M_open_49 : decode prog_5_method_29_code 49 = .ok (.getfield 131, 3) := by decide +kernel
theorem d_M_open_52 : decode prog_5_method_29_code 52 = .ok (.imul, 1) := by decide +kernel
theorem d_M_open_53 : decode prog_5_method_29_code 53 = .ok (.iconst 3, 1) := by decide +kernel
theorem d_M_open_54 : decode prog_5_method_29_code 54 = .ok (.iadd, 1) := by decide +kernel
theorem d_M_open_55 : decode prog_5_method_29_code 55 = .ok (.aload_n 0, 1) := by decide +kernel
theorem d_M_open_56 : decode prog_5_method_29_code 56 = .ok (.getfield 32, 3) := by decide +kernel
theorem d_M_open_59 : decode prog_5_method_29_code 59 = .ok (.iload_n 1, 1) := by decide +kernel
theorem d_M_open_60 : decode prog_5_method_29_code 60 = .ok (.iload_n 3, 1) := by decide +kernel
theorem d_M_open_61 : decode prog_5_method_29_code 61 = .ok (.iload_n 2, 1) := by decide +kernel
theorem d_M_open_62 : decode prog_5_method_29_code 62 = .ok (.invokestatic 79, 3) := by decide +kernel
theorem d_M_open_65 : decode prog_5_method_29_code 65 = .ok (.laload, 1) := by decide +kernel
theorem d_M_open_66 : decode prog_5_method_29_code 66 = .ok (.lastore, 1) := by decide +kernel
theorem d_M_open_67 : decode prog_5_method_29_code 67 = .ok (.aload_n 0, 1) := by decide +kernel
theorem d_M_open_68 : decode prog_5_method_29_code 68 = .ok (.dup, 1) := by decide +kernel
theorem d_M_open_69 : decode prog_5_method_29_code 69 = .ok (.getfield 131, 3) := by decide +kernel
theorem d_M_open_72 : decode prog_5_method_29_code 72 = .ok (.iconst 1, 1) := by decide +kernel
theorem d_M_open_73 : decode prog_5_method_29_code 73 = .ok (.iadd, 1) := by decide +kernel
theorem d_M_open_74 : decode prog_5_method_29_code 74 = .ok (.putfield 131, 3) := by decide +kernel
theorem d_M_open_77 : decode prog_5_method_29_code 77 = .ok (.return_, 1) := by decide +kernel
abbrev WS_M_open (cI cL cZ : ClassId)  (h0 a_currency a_sort a_closing a_average a_held a_sum a_told a_left a_step a_outside a_item : Nat) (v_thrown : Int32) (v_companies : Int32) (v_accounts : Int32) (v_done : Int32) (v_items : Int32) (v_left : (Nat → Int64)) (v_item : (Nat → Int64)) : va_W := [(h0, .inr (3, [.int v_thrown, .int v_companies, .int v_accounts, .ref a_currency, .ref a_sort, .ref a_closing, .ref a_average, .ref a_held, .ref a_sum, .ref a_told, .int v_done, .ref a_left, .ref a_step, .ref a_outside, .int v_items, .ref a_item])), (a_left, .inl (cL, 1872, .inr (.inl v_left))), (a_item, .inl (cL, 6400, .inr (.inl v_item)))]
def wp_M_open  (p0 : Int32) (p1 : Int32) (p2 : Int32) (v_items : Int32) (v_left : (Nat → Int64)) (v_item : (Nat → Int64)) (post : (Int32 × (Nat → Int64)) → Prop) : Prop := (vp_in (4 * v_items) 6400 ∧ (vp_in ((4 * v_items) + 1) 6400 ∧ (vp_in ((4 * v_items) + 2) 6400 ∧ (wp_M_cell p0 p2 p1 (fun (r62 : Int32) (u62 : Unit) => (vp_in r62 1872 ∧ (vp_in ((4 * v_items) + 3) 6400 ∧ post ((v_items + 1), (vp_updL (vp_updL (vp_updL (vp_updL v_item (Int32.toNatClampNeg (4 * v_items)) p0.toInt64) (Int32.toNatClampNeg ((4 * v_items) + 1)) p1.toInt64) (Int32.toNatClampNeg ((4 * v_items) + 2)) p2.toInt64) (Int32.toNatClampNeg ((4 * v_items) + 3)) (v_left r62.toNatClampNeg))))))))))
abbrev ws_M_open : List Cond := .code y_M_open prog_5_method_29_code 4 none :: kxW
abbrev rm_M_open : Room := { frames := 1, cells := 0, slots := 0, locals := 22 }
abbrev QC_M_open (dC : Nat → ClassId) (dI : Nat → Nat → Nat) (cI cL cZ : ClassId) (A : Nat → Prop)  (h0 a_currency a_sort a_closing a_average a_held a_sum a_told a_left a_step a_outside a_item : Nat) (v_thrown : Int32) (v_companies : Int32) (v_accounts : Int32) (v_done : Int32) (v_items : Int32) (v_left : (Nat → Int64)) (v_item : (Nat → Int64)) (post : (Int32 × (Nat → Int64)) → Prop) : Array Value → State → Outcome → State → Prop := va_Qv post (fun (u : Int32 × (Nat → Int64)) t => kx_B (dC, dI) classes A (WS_M_open cI cL cZ h0 a_currency a_sort a_closing a_average a_held a_sum a_told a_left a_step a_outside a_item v_thrown v_companies v_accounts v_done u.1 v_left u.2) t) A
set_option maxHeartbeats 4000000 in
set_option maxRecDepth 100000 in
theorem c_M_open (l : Launch) (dC : Nat → ClassId) (dI : Nat → Nat → Nat) (cI cL cZ : ClassId)  (h0 a_currency a_sort a_closing a_average a_held a_sum a_told a_left a_step a_outside a_item : Nat) (v_thrown : Int32) (v_companies : Int32) (v_accounts : Int32) (v_done : Int32) (v_items : Int32) (v_left : (Nat → Int64)) (v_item : (Nat → Int64)) (sz : Nat) (p0 : Int32) (p1 : Int32) (p2 : Int32) {post : (Int32 × (Nat → Int64)) → Prop} (hw : wp_M_open p0 p1 p2 v_items v_left v_item post) : Met l y_M_open ws_M_open rm_M_open (kx_Pc (dC, dI) classes (kx_T cI cL cZ) (WS_M_open cI cL cZ h0 a_currency a_sort a_closing a_average a_held a_sum a_told a_left a_step a_outside a_item v_thrown v_companies v_accounts v_done v_items v_left v_item) sz [.ref h0, .int p0, .int p1, .int p2]) (QC_M_open dC dI cI cL cZ (va_A (WS_M_open cI cL cZ h0 a_currency a_sort a_closing a_average a_held a_sum a_told a_left a_step a_outside a_item v_thrown v_companies v_accounts v_done v_items v_left v_item) sz) h0 a_currency a_sort a_closing a_average a_held a_sum a_told a_left a_step a_outside a_item v_thrown v_companies v_accounts v_done v_items v_left v_item post) 0 0 (va_A (WS_M_open cI cL cZ h0 a_currency a_sort a_closing a_average a_held a_sum a_told a_left a_step a_outside a_item v_thrown v_companies v_accounts v_done v_items v_left v_item) sz) := by
  refine Met.ofW (cc := prog_5_method_29_code) (maxL := 4) (ret := none) (by decide) rfl ?_
  intro p e s m args below meth c s₁ B hml hv
  obtain ⟨rfl, hsz, hP, hK, hD0, hN⟩ := hv
  have hx := B.exec
  have hb := B.bytes
  have hr := B.returns
  have hts := atoms_spec (ws := ws_M_open) B.pre
  have hown : s.vm.findClass R_M = some m.cls := findClass_of_methodNamed B.named
  have hlocks := B.notSynchronized
  subst hsz
  have hD := hD0.self (sz := s.heap.size)
  generalize hAe : va_A (WS_M_open cI cL cZ h0 a_currency a_sort a_closing a_average a_held a_sum a_told a_left a_step a_outside a_item v_thrown v_companies v_accounts v_done v_items v_left v_item) s.heap.size = A at hD ⊢
  have hA : ∀ q : Nat, s.heap.size ≤ q → A q := fun q h => by rw [← hAe]; exact Or.inr h
  have hS : va_S A s.heap s.heap [] := va_S.rf
  have hP : va_P (dC, dI) classes (WS_M_open cI cL cZ h0 a_currency a_sort a_closing a_average a_held a_sum a_told a_left a_step a_outside a_item v_thrown v_companies v_accounts v_done v_items v_left v_item) s.heap := hP
  have hl := lv_entry ([.ref h0, .int p0, .int p1, .int p2]) (n := 4) (Nat.le_of_ble_eq_true rfl)
  rw [lg_entry_eq]
  generalize (lg_sl ([.ref h0, .int p0, .int p1, .int p2]) ++ List.replicate (4 - (lg_sl ([.ref h0, .int p0, .int p1, .int p2])).length) Slot.unset).toArray = ls at hl ⊢
  have hl : lv_has ls 4 [(0, .ref h0), (1, .int p0), (2, .int p1), (3, .int p2)] := hl
  unfold wp_M_open at hw
  refine (show ∀ (H : Heap) (locs : List Loc), va_P (dC, dI) classes (WS_M_open cI cL cZ h0 a_currency a_sort a_closing a_average a_held a_sum a_told a_left a_step a_outside a_item v_thrown v_companies v_accounts v_done v_items v_left v_item) H → va_S A s.heap H locs → W p l e (headSpec ws_M_open rm_M_open).room s m ([.ref h0, .int p0, .int p1, .int p2] : List Value).toArray below meth c H locs 0 0 (MQ below (QC_M_open dC dI cI cL cZ A h0 a_currency a_sort a_closing a_average a_held a_sum a_told a_left a_step a_outside a_item v_thrown v_companies v_accounts v_done v_items v_left v_item post) ([.ref h0, .int p0, .int p1, .int p2] : List Value).toArray s 0 0 A) (F0 m 0 ls []) from ?_) _ _ hP hS
  intro H locs hP hS
  refine lv_aload_n hx hb d_M_open_0 rfl (lv_at hl 0 rfl) ?_
  refine va_get (D := (dC, dI)) (ci := 3) (v := .ref a_item) (C := R_M) (T := F_M) (N := 16) hx hb hts (kx_in in_M) hown hK hP 0 rfl rfl 15 (by decide) (hts _ (kx_w iw_490)) (fun _ h9 => h9) rfl d_M_open_1 ?_
  refine lv_iconst (v := 4) hx hb d_M_open_4 (by decide) ?_
  refine lv_aload_n hx hb d_M_open_5 rfl (lv_at hl 0 rfl) ?_
  refine va_get (D := (dC, dI)) (ci := 3) (v := .int v_items) (C := R_M) (T := F_M) (N := 16) hx hb hts (kx_in in_M) hown hK hP 0 rfl rfl 14 (by decide) (hts _ (kx_w iw_489)) (fun _ h9 => h9) rfl d_M_open_6 ?_
  refine lv_imul hx hb d_M_open_9 ?_
  refine lv_iload_n hx hb d_M_open_10 rfl (lv_at hl 1 rfl) ?_
  refine lv_i2l hx hb d_M_open_11 rfl ?_
  obtain ⟨hi, hw⟩ := hw
  refine va_last hx hb hK hP hD hS 2 1 rfl rfl hi d_M_open_12 (fun H locs hP hD hS => ?_)
  have hP : va_P (dC, dI) classes (WS_M_open cI cL cZ h0 a_currency a_sort a_closing a_average a_held a_sum a_told a_left a_step a_outside a_item v_thrown v_companies v_accounts v_done v_items v_left (vp_updL v_item (Int32.toNatClampNeg (4 * v_items)) p0.toInt64)) H := hP
  have hD : va_D A (WS_M_open cI cL cZ h0 a_currency a_sort a_closing a_average a_held a_sum a_told a_left a_step a_outside a_item v_thrown v_companies v_accounts v_done v_items v_left (vp_updL v_item (Int32.toNatClampNeg (4 * v_items)) p0.toInt64)) := hD
  refine lv_aload_n hx hb d_M_open_13 rfl (lv_at hl 0 rfl) ?_
  refine va_get (D := (dC, dI)) (ci := 3) (v := .ref a_item) (C := R_M) (T := F_M) (N := 16) hx hb hts (kx_in in_M) hown hK hP 0 rfl rfl 15 (by decide) (hts _ (kx_w iw_490)) (fun _ h9 => h9) rfl d_M_open_14 ?_
  refine lv_iconst (v := 4) hx hb d_M_open_17 (by decide) ?_
  refine lv_aload_n hx hb d_M_open_18 rfl (lv_at hl 0 rfl) ?_
  refine va_get (D := (dC, dI)) (ci := 3) (v := .int v_items) (C := R_M) (T := F_M) (N := 16) hx hb hts (kx_in in_M) hown hK hP 0 rfl rfl 14 (by decide) (hts _ (kx_w iw_489)) (fun _ h9 => h9) rfl d_M_open_19 ?_
  refine lv_imul hx hb d_M_open_22 ?_
  refine lv_iconst (v := 1) hx hb d_M_open_23 (by decide) ?_
  refine lv_iadd hx hb d_M_open_24 ?_
  refine lv_iload_n hx hb d_M_open_25 rfl (lv_at hl 2 rfl) ?_
  refine lv_i2l hx hb d_M_open_26 rfl ?_
  obtain ⟨hi, hw⟩ := hw
  refine va_last hx hb hK hP hD hS 2 1 rfl rfl hi d_M_open_27 (fun H locs hP hD hS => ?_)
  have hP : va_P (dC, dI) classes (WS_M_open cI cL cZ h0 a_currency a_sort a_closing a_average a_held a_sum a_told a_left a_step a_outside a_item v_thrown v_companies v_accounts v_done v_items v_left (vp_updL (vp_updL v_item (Int32.toNatClampNeg (4 * v_items)) p0.toInt64) (Int32.toNatClampNeg ((4 * v_items) + 1)) p1.toInt64)) H := hP
  have hD : va_D A (WS_M_open cI cL cZ h0 a_currency a_sort a_closing a_average a_held a_sum a_told a_left a_step a_outside a_item v_thrown v_companies v_accounts v_done v_items v_left (vp_updL (vp_updL v_item (Int32.toNatClampNeg (4 * v_items)) p0.toInt64) (Int32.toNatClampNeg ((4 * v_items) + 1)) p1.toInt64)) := hD
  refine lv_aload_n hx hb d_M_open_28 rfl (lv_at hl 0 rfl) ?_
  refine va_get (D := (dC, dI)) (ci := 3) (v := .ref a_item) (C := R_M) (T := F_M) (N := 16) hx hb hts (kx_in in_M) hown hK hP 0 rfl rfl 15 (by decide) (hts _ (kx_w iw_490)) (fun _ h9 => h9) rfl d_M_open_29 ?_
  refine lv_iconst (v := 4) hx hb d_M_open_32 (by decide) ?_
  refine lv_aload_n hx hb d_M_open_33 rfl (lv_at hl 0 rfl) ?_
  refine va_get (D := (dC, dI)) (ci := 3) (v := .int v_items) (C := R_M) (T := F_M) (N := 16) hx hb hts (kx_in in_M) hown hK hP 0 rfl rfl 14 (by decide) (hts _ (kx_w iw_489)) (fun _ h9 => h9) rfl d_M_open_34 ?_
  refine lv_imul hx hb d_M_open_37 ?_
  refine lv_iconst (v := 2) hx hb d_M_open_38 (by decide) ?_
  refine lv_iadd hx hb d_M_open_39 ?_
  refine lv_iload_n hx hb d_M_open_40 rfl (lv_at hl 3 rfl) ?_
  refine lv_i2l hx hb d_M_open_41 rfl ?_
  obtain ⟨hi, hw⟩ := hw
  refine va_last hx hb hK hP hD hS 2 1 rfl rfl hi d_M_open_42 (fun H locs hP hD hS => ?_)
  have hP : va_P (dC, dI) classes (WS_M_open cI cL cZ h0 a_currency a_sort a_closing a_average a_held a_sum a_told a_left a_step a_outside a_item v_thrown v_companies v_accounts v_done v_items v_left (vp_updL (vp_updL (vp_updL v_item (Int32.toNatClampNeg (4 * v_items)) p0.toInt64) (Int32.toNatClampNeg ((4 * v_items) + 1)) p1.toInt64) (Int32.toNatClampNeg ((4 * v_items) + 2)) p2.toInt64)) H := hP
  have hD : va_D A (WS_M_open cI cL cZ h0 a_currency a_sort a_closing a_average a_held a_sum a_told a_left a_step a_outside a_item v_thrown v_companies v_accounts v_done v_items v_left (vp_updL (vp_updL (vp_updL v_item (Int32.toNatClampNeg (4 * v_items)) p0.toInt64) (Int32.toNatClampNeg ((4 * v_items) + 1)) p1.toInt64) (Int32.toNatClampNeg ((4 * v_items) + 2)) p2.toInt64)) := hD
  refine lv_aload_n hx hb d_M_open_43 rfl (lv_at hl 0 rfl) ?_
  refine va_get (D := (dC, dI)) (ci := 3) (v := .ref a_item) (C := R_M) (T := F_M) (N := 16) hx hb hts (kx_in in_M) hown hK hP 0 rfl rfl 15 (by decide) (hts _ (kx_w iw_490)) (fun _ h9 => h9) rfl d_M_open_44 ?_
  refine lv_iconst (v := 4) hx hb d_M_open_47 (by decide) ?_
  refine lv_aload_n hx hb d_M_open_48 rfl (lv_at hl 0 rfl) ?_
  refine va_get (D := (dC, dI)) (ci := 3) (v := .int v_items) (C := R_M) (T := F_M) (N := 16) hx hb hts (kx_in in_M) hown hK hP 0 rfl rfl 14 (by decide) (hts _ (kx_w iw_489)) (fun _ h9 => h9) rfl d_M_open_49 ?_
  refine lv_imul hx hb d_M_open_52 ?_
  refine lv_iconst (v := 3) hx hb d_M_open_53 (by decide) ?_
  refine lv_iadd hx hb d_M_open_54 ?_
  refine lv_aload_n hx hb d_M_open_55 rfl (lv_at hl 0 rfl) ?_
  refine va_get (D := (dC, dI)) (ci := 3) (v := .ref a_left) (C := R_M) (T := F_M) (N := 16) hx hb hts (kx_in in_M) hown hK hP 0 rfl rfl 11 (by decide) (hts _ (kx_w iw_486)) (fun _ h9 => h9) rfl d_M_open_56 ?_
  refine lv_iload_n hx hb d_M_open_59 rfl (lv_at hl 1 rfl) ?_
  refine lv_iload_n hx hb d_M_open_60 rfl (lv_at hl 3 rfl) ?_
  refine lv_iload_n hx hb d_M_open_61 rfl (lv_at hl 2 rfl) ?_
  refine kx_calli (ws' := fun u62 => (WS_M_open cI cL cZ h0 a_currency a_sort a_closing a_average a_held a_sum a_told a_left a_step a_outside a_item v_thrown v_companies v_accounts v_done v_items v_left (vp_updL (vp_updL (vp_updL v_item (Int32.toNatClampNeg (4 * v_items)) p0.toInt64) (Int32.toNatClampNeg ((4 * v_items) + 1)) p1.toInt64) (Int32.toNatClampNeg ((4 * v_items) + 2)) p2.toInt64))) (va_runS (As := [.int p0, .int p2, .int p1]) (rest := [.ref a_left, .int ((4 * v_items) + 3), .ref a_item]) ⟨hx, hb, hml, hown, hts⟩ (c_M_cell l dC dI cI cL cZ  H.size p0 p2 p1 hw) ⟨(callB_of 3 hts (kx_good iw_573) rfl rfl rfl (hts _ (kx_w iw_4)) (hts _ (kx_w iw_571)) (by decide +kernel) ⟨Nat.le_of_ble_eq_true rfl, Nat.le_of_ble_eq_true rfl⟩), (hts _ (kx_w iw_572))⟩ (kx_preS hN hK hP hD [] (by decide) rfl) rfl rfl hl.1 rfl (lv_room (Nat.le_of_ble_eq_true rfl)) d_M_open_62 ⟨Nat.le_of_ble_eq_true rfl, Nat.le_of_ble_eq_true rfl⟩) hP hD hS hA [] [0, 1, 2] rfl rfl (by decide) (by decide) [0, 1, 2] (by decide) (fun _ => rfl) (fun r62 u62 H locs hw hP hD hS => ?_)
  have hP : va_P (dC, dI) classes (WS_M_open cI cL cZ h0 a_currency a_sort a_closing a_average a_held a_sum a_told a_left a_step a_outside a_item v_thrown v_companies v_accounts v_done v_items v_left (vp_updL (vp_updL (vp_updL v_item (Int32.toNatClampNeg (4 * v_items)) p0.toInt64) (Int32.toNatClampNeg ((4 * v_items) + 1)) p1.toInt64) (Int32.toNatClampNeg ((4 * v_items) + 2)) p2.toInt64)) H := hP
  have hD : va_D A (WS_M_open cI cL cZ h0 a_currency a_sort a_closing a_average a_held a_sum a_told a_left a_step a_outside a_item v_thrown v_companies v_accounts v_done v_items v_left (vp_updL (vp_updL (vp_updL v_item (Int32.toNatClampNeg (4 * v_items)) p0.toInt64) (Int32.toNatClampNeg ((4 * v_items) + 1)) p1.toInt64) (Int32.toNatClampNeg ((4 * v_items) + 2)) p2.toInt64)) := hD
  obtain ⟨hi, hw⟩ := hw
  refine va_lald hx hb hK hP 1 1 rfl rfl hi d_M_open_65 ?_
  obtain ⟨hi, hw⟩ := hw
  refine va_last hx hb hK hP hD hS 2 1 rfl rfl hi d_M_open_66 (fun H locs hP hD hS => ?_)
  have hP : va_P (dC, dI) classes (WS_M_open cI cL cZ h0 a_currency a_sort a_closing a_average a_held a_sum a_told a_left a_step a_outside a_item v_thrown v_companies v_accounts v_done v_items v_left (vp_updL (vp_updL (vp_updL (vp_updL v_item (Int32.toNatClampNeg (4 * v_items)) p0.toInt64) (Int32.toNatClampNeg ((4 * v_items) + 1)) p1.toInt64) (Int32.toNatClampNeg ((4 * v_items) + 2)) p2.toInt64) (Int32.toNatClampNeg ((4 * v_items) + 3)) (v_left r62.toNatClampNeg))) H := hP
  have hD : va_D A (WS_M_open cI cL cZ h0 a_currency a_sort a_closing a_average a_held a_sum a_told a_left a_step a_outside a_item v_thrown v_companies v_accounts v_done v_items v_left (vp_updL (vp_updL (vp_updL (vp_updL v_item (Int32.toNatClampNeg (4 * v_items)) p0.toInt64) (Int32.toNatClampNeg ((4 * v_items) + 1)) p1.toInt64) (Int32.toNatClampNeg ((4 * v_items) + 2)) p2.toInt64) (Int32.toNatClampNeg ((4 * v_items) + 3)) (v_left r62.toNatClampNeg))) := hD
  refine lv_aload_n hx hb d_M_open_67 rfl (lv_at hl 0 rfl) ?_
  refine lv_dup hx hb d_M_open_68 rfl ?_
  refine va_get (D := (dC, dI)) (ci := 3) (v := .int v_items) (C := R_M) (T := F_M) (N := 16) hx hb hts (kx_in in_M) hown hK hP 0 rfl rfl 14 (by decide) (hts _ (kx_w iw_489)) (fun _ h9 => h9) rfl d_M_open_69 ?_
  refine lv_iconst (v := 1) hx hb d_M_open_72 (by decide) ?_
  refine lv_iadd hx hb d_M_open_73 ?_
  refine va_put (D := (dC, dI)) (ci := 3) (v := .int (v_items + 1)) (ty := .int) (C := R_M) (T := F_M) (N := 16) hx hb hts (kx_in in_M) t_M t_M_ok n_M hown hK hP hD hS 0 rfl rfl 14 (by decide) (hts _ (kx_w iw_489)) (fun _ h9 => h9) rfl (by decide +kernel) rfl rfl (Nat.le_of_ble_eq_true rfl) d_M_open_74 (fun H locs hP hD hS => ?_)
  have hP : va_P (dC, dI) classes (WS_M_open cI cL cZ h0 a_currency a_sort a_closing a_average a_held a_sum a_told a_left a_step a_outside a_item v_thrown v_companies v_accounts v_done (v_items + 1) v_left (vp_updL (vp_updL (vp_updL (vp_updL v_item (Int32.toNatClampNeg (4 * v_items)) p0.toInt64) (Int32.toNatClampNeg ((4 * v_items) + 1)) p1.toInt64) (Int32.toNatClampNeg ((4 * v_items) + 2)) p2.toInt64) (Int32.toNatClampNeg ((4 * v_items) + 3)) (v_left r62.toNatClampNeg))) H := hP
  have hD : va_D A (WS_M_open cI cL cZ h0 a_currency a_sort a_closing a_average a_held a_sum a_told a_left a_step a_outside a_item v_thrown v_companies v_accounts v_done (v_items + 1) v_left (vp_updL (vp_updL (vp_updL (vp_updL v_item (Int32.toNatClampNeg (4 * v_items)) p0.toInt64) (Int32.toNatClampNeg ((4 * v_items) + 1)) p1.toInt64) (Int32.toNatClampNeg ((4 * v_items) + 2)) p2.toInt64) (Int32.toNatClampNeg ((4 * v_items) + 3)) (v_left r62.toNatClampNeg))) := hD
  exact W.vret hx hb hr (fun t ht hW => ⟨⟨((v_items + 1), (vp_updL (vp_updL (vp_updL (vp_updL v_item (Int32.toNatClampNeg (4 * v_items)) p0.toInt64) (Int32.toNatClampNeg ((4 * v_items) + 1)) p1.toInt64) (Int32.toNatClampNeg ((4 * v_items) + 2)) p2.toInt64) (Int32.toNatClampNeg ((4 * v_items) + 3)) (v_left r62.toNatClampNeg))), rfl, hw, ⟨by rw [ht]; exact hP, hD⟩⟩, hS.F ht⟩) hS.2.2 d_M_open_77
/-! ConsolidationDeskModel.eliminate()V -/
abbrev y_M_eliminate : MethodName := ⟨"ConsolidationDeskModel", "eliminate", "()V"⟩
theorem d_M_eliminate_0 : decode prog_5_method_28_code 0 = .ok (.iconst 0, 1) := by decide +kernel
theorem d_M_eliminate_1 : decode prog_5_method_28_code 1 = .ok (.istore_n 1, 1) := by decide +kernel
theorem d_M_eliminate_2 : decode prog_5_method_28_code 2 = .ok (.iload_n 1, 1) := by decide +kernel
theorem d_M_eliminate_3 : decode prog_5_method_28_code 3 = .ok (.aload_n 0, 1) := by decide +kernel
theorem d_M_eliminate_4 : decode prog_5_method_28_code 4 = .ok (.getfield 44, 3) := by decide +kernel
theorem d_M_eliminate_7 : decode prog_5_method_28_code 7 = .ok (.if_icmp .ge 249, 3) := by decide +kernel
theorem d_M_eliminate_10 : decode prog_5_method_28_code 10 = .ok (.iconst 0, 1) := by decide +kernel
theorem d_M_eliminate_11 : decode prog_5_method_28_code 11 = .ok (.istore_n 2, 1) := by decide +kernel
theorem d_M_eliminate_12 : decode prog_5_method_28_code 12 = .ok (.iload_n 2, 1) := by decide +kernel
theorem d_M_eliminate_13 : decode prog_5_method_28_code 13 = .ok (.aload_n 0, 1) := by decide +kernel
theorem d_M_eliminate_14 : decode prog_5_method_28_code 14 = .ok (.getfield 44, 3) := by decide +kernel
theorem d_M_eliminate_17 : decode prog_5_method_28_code 17 = .ok (.if_icmp .ge 233, 3) := by decide +kernel
theorem d_M_eliminate_20 : decode prog_5_method_28_code 20 = .ok (.iload_n 2, 1) := by decide +kernel
theorem d_M_eliminate_21 : decode prog_5_method_28_code 21 = .ok (.iload_n 1, 1) := by decide +kernel
theorem d_M_eliminate_22 : decode prog_5_method_28_code 22 = .ok (.if_icmp .eq 222, 3) := by decide +kernel
theorem d_M_eliminate_25 : decode prog_5_method_28_code 25 = .ok (.aload_n 0, 1) := by decide +kernel
theorem d_M_eliminate_26 : decode prog_5_method_28_code 26 = .ok (.iload_n 1, 1) := by decide +kernel
theorem d_M_eliminate_27 : decode prog_5_method_28_code 27 = .ok (.invokevirtual 91, 3) := by decide +kernel
theorem d_M_eliminate_30 : decode prog_5_method_28_code 30 = .ok (.ifCond .eq 214, 3) := by decide +kernel
theorem d_M_eliminate_33 : decode prog_5_method_28_code 33 = .ok (.aload_n 0, 1) := by decide +kernel
theorem d_M_eliminate_34 : decode prog_5_method_28_code 34 = .ok (.iload_n 2, 1) := by decide +kernel
theorem d_M_eliminate_35 : decode prog_5_method_28_code 35 = .ok (.invokevirtual 91, 3) := by decide +kernel
theorem d_M_eliminate_38 : decode prog_5_method_28_code 38 = .ok (.ifCond .ne 6, 3) := by decide +kernel
theorem d_M_eliminate_41 : decode prog_5_method_28_code 41 = .ok (.goto 203, 3) := by decide +kernel
theorem d_M_eliminate_44 : decode prog_5_method_28_code 44 = .ok (.iconst 0, 1) := by decide +kernel
theorem d_M_eliminate_45 : decode prog_5_method_28_code 45 = .ok (.istore_n 3, 1) := by decide +kernel
theorem d_M_eliminate_46 : decode prog_5_method_28_code 46 = .ok (.iload_n 3, 1) := by decide +kernel
theorem d_M_eliminate_47 : decode prog_5_method_28_code 47 = .ok (.aload_n 0, 1) := by decide +kernel
theorem d_M_eliminate_48 : decode prog_5_method_28_code 48 = .ok (.getfield 52, 3) := by decide +kernel
theorem d_M_eliminate_51 : decode prog_5_method_28_code 51 = .ok (.if_icmp .ge 193, 3) := by decide +kernel
theorem d_M_eliminate_54 : decode prog_5_method_28_code 54 = .ok (.aload_n 0, 1) := by decide +kernel
theorem d_M_eliminate_55 : decode prog_5_method_28_code 55 = .ok (.getfield 32, 3) := by decide +kernel
theorem d_M_eliminate_58 : decode prog_5_method_28_code 58 = .ok (.iload_n 1, 1) := by decide +kernel
theorem d_M_eliminate_59 : decode prog_5_method_28_code 59 = .ok (.iload_n 3, 1) := by decide +kernel
theorem d_M_eliminate_60 : decode prog_5_method_28_code 60 = .ok (.iload_n 2, 1) := by decide +kernel
theorem d_M_eliminate_61 : decode prog_5_method_28_code 61 = .ok (.invokestatic 79, 3) := by decide +kernel
theorem d_M_eliminate_64 : decode prog_5_method_28_code 64 = .ok (.laload, 1) := by decide +kernel
theorem d_M_eliminate_65 : decode prog_5_method_28_code 65 = .ok (.lstore 4, 2) := by decide +kernel
theorem d_M_eliminate_67 : decode prog_5_method_28_code 67 = .ok (.aload_n 0, 1) := by decide +kernel
theorem d_M_eliminate_68 : decode prog_5_method_28_code 68 = .ok (.getfield 32, 3) := by decide +kernel
theorem d_M_eliminate_71 : decode prog_5_method_28_code 71 = .ok (.iload_n 2, 1) := by decide +kernel
theorem d_M_eliminate_72 : decode prog_5_method_28_code 72 = .ok (.iload_n 3, 1) := by decide +kernel
theorem d_M_eliminate_73 : decode prog_5_method_28_code 73 = .ok (.iload_n 1, 1) := by decide +kernel
theorem d_M_eliminate_74 : decode prog_5_method_28_code 74 = .ok (.invokestatic 79, 3) := by decide +kernel
theorem d_M_eliminate_77 : decode prog_5_method_28_code 77 = .ok (.laload, 1) := by decide +kernel
theorem d_M_eliminate_78 : decode prog_5_method_28_code 78 = .ok (.lstore 6, 2) := by decide +kernel
theorem d_M_eliminate_80 : decode prog_5_method_28_code 80 = .ok (.lload 4, 2) := by decide +kernel
theorem d_M_eliminate_82 : decode prog_5_method_28_code 82 = .ok (.lconst 0, 1) := by decide +kernel
theorem d_M_eliminate_83 : decode prog_5_method_28_code 83 = .ok (.lcmp, 1) := by decide +kernel
theorem d_M_eliminate_84 : decode prog_5_method_28_code 84 = .ok (.ifCond .le 10, 3) := by decide +kernel
theorem d_M_eliminate_87 : decode prog_5_method_28_code 87 = .ok (.lload 6, 2) := by decide +kernel
theorem d_M_eliminate_89 : decode prog_5_method_28_code 89 = .ok (.lconst 0, 1) := by decide +kernel
theorem d_M_eliminate_90 : decode prog_5_method_28_code 90 = .ok (.lcmp, 1) := by decide +kernel
theorem d_M_eliminate_91 : decode prog_5_method_28_code 91 = .ok (.ifCond .lt 17, 3) := by decide +kernel
theorem d_M_eliminate_94 : decode prog_5_method_28_code 94 = .ok (.lload 4, 2) := by decide +kernel
theorem d_M_eliminate_96 : decode prog_5_method_28_code 96 = .ok (.lconst 0, 1) := by decide +kernel
theorem d_M_eliminate_97 : decode prog_5_method_28_code 97 = .ok (.lcmp, 1) := by decide +kernel
theorem d_M_eliminate_98 : decode prog_5_method_28_code 98 = .ok (.ifCond .ge 14, 3) := by decide +kernel
theorem d_M_eliminate_101 : decode prog_5_method_28_code 101 = .ok (.lload 6, 2) := by decide +kernel
theorem d_M_eliminate_103 : decode prog_5_method_28_code 103 = .ok (.lconst 0, 1) := by decide +kernel
theorem d_M_eliminate_104 : decode prog_5_method_28_code 104 = .ok (.lcmp, 1) := by decide +kernel
theorem d_M_eliminate_105 : decode prog_5_method_28_code 105 = .ok (.ifCond .le 7, 3) := by decide +kernel
theorem d_M_eliminate_108 : decode prog_5_method_28_code 108 = .ok (.iconst 1, 1) := by decide +kernel
theorem d_M_eliminate_109 : decode prog_5_method_28_code 109 = .ok (.goto 4, 3) := by decide +kernel
theorem d_M_eliminate_112 : decode prog_5_method_28_code 112 = .ok (.iconst 0, 1) := by decide +kernel
theorem d_M_eliminate_113 : decode prog_5_method_28_code 113 = .ok (.istore 8, 2) := by decide +kernel
theorem d_M_eliminate_115 : decode prog_5_method_28_code 115 = .ok (.iload 8, 2) := by decide +kernel
theorem d_M_eliminate_117 : decode prog_5_method_28_code 117 = .ok (.ifCond .eq 33, 3) := by decide +kernel
theorem d_M_eliminate_120 : decode prog_5_method_28_code 120 = .ok (.lload 4, 2) := by decide +kernel
theorem d_M_eliminate_122 : decode prog_5_method_28_code 122 = .ok (.invokestatic 83, 3) := by decide +kernel
theorem d_M_eliminate_125 : decode prog_5_method_28_code 125 = .ok (.lload 6, 2) := by decide +kernel
theorem d_M_eliminate_127 : decode prog_5_method_28_code 127 = .ok (.invokestatic 83, 3) := by decide +kernel
theorem d_M_eliminate_130 : decode prog_5_method_28_code 130 = .ok (.lcmp, 1) := by decide +kernel
theorem d_M_eliminate_131 : decode prog_5_method_28_code 131 = .ok (.ifCond .ge 11, 3) := by decide +kernel
theorem d_M_eliminate_134 : decode prog_5_method_28_code 134 = .ok (.lload 4, 2) := by decide +kernel
theorem d_M_eliminate_136 : decode prog_5_method_28_code 136 = .ok (.invokestatic 83, 3) := by decide +kernel
theorem d_M_eliminate_139 : decode prog_5_method_28_code 139 = .ok (.goto 12, 3) := by decide +kernel
theorem d_M_eliminate_142 : decode prog_5_method_28_code 142 = .ok (.lload 6, 2) := by decide +kernel
theorem d_M_eliminate_144 : decode prog_5_method_28_code 144 = .ok (.invokestatic 83, 3) := by decide +kernel
theorem d_M_eliminate_147 : decode prog_5_method_28_code 147 = .ok (.goto 4, 3) := by decide +kernel
theorem d_M_eliminate_150 : decode prog_5_method_28_code 150 = .ok (.lconst 0, 1) := by decide +kernel
theorem d_M_eliminate_151 : decode prog_5_method_28_code 151 = .ok (.lstore 9, 2) := by decide +kernel
theorem d_M_eliminate_153 : decode prog_5_method_28_code 153 = .ok (.aload_n 0, 1) := by decide +kernel
theorem d_M_eliminate_154 : decode prog_5_method_28_code 154 = .ok (.getfield 32, 3) := by decide +kernel
theorem d_M_eliminate_157 : decode prog_5_method_28_code 157 = .ok (.iload_n 1, 1) := by decide +kernel
theorem d_M_eliminate_158 : decode prog_5_method_28_code 158 = .ok (.iload_n 3, 1) := by decide +kernel
theorem d_M_eliminate_159 : decode prog_5_method_28_code 159 = .ok (.iload_n 2, 1) := by decide +kernel
theorem d_M_eliminate_160 : decode prog_5_method_28_code 160 = .ok (.invokestatic 79, 3) := by decide +kernel
theorem d_M_eliminate_163 : decode prog_5_method_28_code 163 = .ok (.lload 4, 2) := by decide +kernel
theorem d_M_eliminate_165 : decode prog_5_method_28_code 165 = .ok (.lconst 0, 1) := by decide +kernel
theorem d_M_eliminate_166 : decode prog_5_method_28_code 166 = .ok (.lcmp, 1) := by decide +kernel
theorem d_M_eliminate_167 : decode prog_5_method_28_code 167 = .ok (.ifCond .ge 11, 3) := by decide +kernel
theorem d_M_eliminate_170 : decode prog_5_method_28_code 170 = .ok (.lload 4, 2) := by decide +kernel
theorem d_M_eliminate_172 : decode prog_5_method_28_code 172 = .ok (.lload 9, 2) := by decide +kernel
theorem d_M_eliminate_174 : decode prog_5_method_28_code 174 = .ok (.ladd, 1) := by decide +kernel
theorem d_M_eliminate_175 : decode prog_5_method_28_code 175 = .ok (.goto 8, 3) := by decide +kernel
theorem d_M_eliminate_178 : decode prog_5_method_28_code 178 = .ok (.lload 4, 2) := by decide +kernel
theorem d_M_eliminate_180 : decode prog_5_method_28_code 180 = .ok (.lload 9, 2) := by decide +kernel
theorem d_M_eliminate_182 : decode prog_5_method_28_code 182 = .ok (.lsub, 1) := by decide +kernel
theorem d_M_eliminate_183 : decode prog_5_method_28_code 183 = .ok (.lastore, 1) := by decide +kernel
theorem d_M_eliminate_184 : decode prog_5_method_28_code 184 = .ok (.aload_n 0, 1) := by decide +kernel
theorem d_M_eliminate_185 : decode prog_5_method_28_code 185 = .ok (.getfield 32, 3) := by decide +kernel
theorem d_M_eliminate_188 : decode prog_5_method_28_code 188 = .ok (.iload_n 2, 1) := by decide +kernel
theorem d_M_eliminate_189 : decode prog_5_method_28_code 189 = .ok (.iload_n 3, 1) := by decide +kernel
theorem d_M_eliminate_190 : decode prog_5_method_28_code 190 = .ok (.iload_n 1, 1) := by decide +kernel
theorem d_M_eliminate_191 : decode prog_5_method_28_code 191 = .ok (.invokestatic 79, 3) := by decide +kernel
theorem d_M_eliminate_194 : decode prog_5_method_28_code 194 = .ok (.lload 6, 2) := by decide +kernel
theorem d_M_eliminate_196 : decode prog_5_method_28_code 196 = .ok (.lconst 0, 1) := by decide +kernel
theorem d_M_eliminate_197 : decode prog_5_method_28_code 197 = .ok (.lcmp, 1) := by decide +kernel
theorem d_M_eliminate_198 : decode prog_5_method_28_code 198 = .ok (.ifCond .ge 11, 3) := by decide +kernel
theorem d_M_eliminate_201 : decode prog_5_method_28_code 201 = .ok (.lload 6, 2) := by decide +kernel
theorem d_M_eliminate_203 : decode prog_5_method_28_code 203 = .ok (.lload 9, 2) := by decide +kernel
theorem d_M_eliminate_205 : decode prog_5_method_28_code 205 = .ok (.ladd, 1) := by decide +kernel
theorem d_M_eliminate_206 : decode prog_5_method_28_code 206 = .ok (.goto 8, 3) := by decide +kernel
theorem d_M_eliminate_209 : decode prog_5_method_28_code 209 = .ok (.lload 6, 2) := by decide +kernel
theorem d_M_eliminate_211 : decode prog_5_method_28_code 211 = .ok (.lload 9, 2) := by decide +kernel
theorem d_M_eliminate_213 : decode prog_5_method_28_code 213 = .ok (.lsub, 1) := by decide +kernel
theorem d_M_eliminate_214 : decode prog_5_method_28_code 214 = .ok (.lastore, 1) := by decide +kernel
theorem d_M_eliminate_215 : decode prog_5_method_28_code 215 = .ok (.aload_n 0, 1) := by decide +kernel
theorem d_M_eliminate_216 : decode prog_5_method_28_code 216 = .ok (.getfield 32, 3) := by decide +kernel
theorem d_M_eliminate_219 : decode prog_5_method_28_code 219 = .ok (.iload_n 1, 1) := by decide +kernel
theorem d_M_eliminate_220 : decode prog_5_method_28_code 220 = .ok (.iload_n 3, 1) := by decide +kernel
theorem d_M_eliminate_221 : decode prog_5_method_28_code 221 = .ok (.iload_n 2, 1) := by decide +kernel
theorem d_M_eliminate_222 : decode prog_5_method_28_code 222 = .ok (.invokestatic 79, 3) := by decide +kernel
theorem d_M_eliminate_225 : decode prog_5_method_28_code 225 = .ok (.laload, 1) := by decide +kernel
theorem d_M_eliminate_226 : decode prog_5_method_28_code 226 = .ok (.lconst 0, 1) := by decide +kernel
theorem d_M_eliminate_227 : decode prog_5_method_28_code 227 = .ok (.lcmp, 1) := by decide +kernel
theorem d_M_eliminate_228 : decode prog_5_method_28_code 228 = .ok (.ifCond .eq 10, 3) := by decide +kernel
theorem d_M_eliminate_231 : decode prog_5_method_28_code 231 = .ok (.aload_n 0, 1) := by decide +kernel
theorem d_M_eliminate_232 : decode prog_5_method_28_code 232 = .ok (.iload_n 1, 1) := by decide +kernel
theorem d_M_eliminate_233 : decode prog_5_method_28_code 233 = .ok (.iload_n 2, 1) := by decide +kernel
theorem d_M_eliminate_234 : decode prog_5_method_28_code 234 = .ok (.iload_n 3, 1) := by decide +kernel
theorem d_M_eliminate_235 : decode prog_5_method_28_code 235 = .ok (.invokevirtual 144, 3) := by decide +kernel
theorem d_M_eliminate_238 : decode prog_5_method_28_code 238 = .ok (.iinc 3 1, 3) := by decide +kernel
theorem d_M_eliminate_241 : decode prog_5_method_28_code 241 = .ok (.goto (-195), 3) := by decide +kernel
theorem d_M_eliminate_244 : decode prog_5_method_28_code 244 = .ok (.iinc 2 1, 3) := by decide +kernel
theorem d_M_eliminate_247 : decode prog_5_method_28_code 247 = .ok (.goto (-235), 3) := by decide +kernel
theorem d_M_eliminate_250 : decode prog_5_method_28_code 250 = .ok (.iinc 1 1, 3) := by decide +kernel
theorem d_M_eliminate_253 : decode prog_5_method_28_code 253 = .ok (.goto (-251), 3) := by decide +kernel
theorem d_M_eliminate_256 : decode prog_5_method_28_code 256 = .ok (.return_, 1) := by decide +kernel
abbrev WS_M_eliminate (cI cL cZ : ClassId)  (h0 a_currency a_sort a_closing a_average a_held a_sum a_told a_left a_step a_outside a_item : Nat) (v_thrown : Int32) (v_companies : Int32) (v_accounts : Int32) (v_done : Int32) (v_items : Int32) (v_held : (Nat → Int32)) (v_left : (Nat → Int64)) (v_item : (Nat → Int64)) : va_W := [(h0, .inr (3, [.int v_thrown, .int v_companies, .int v_accounts, .ref a_currency, .ref a_sort, .ref a_closing, .ref a_average, .ref a_held, .ref a_sum, .ref a_told, .int v_done, .ref a_left, .ref a_step, .ref a_outside, .int v_items, .ref a_item])), (a_held, .inl (cI, 144, .inl v_held)), (a_left, .inl (cL, 1872, .inr (.inl v_left))), (a_item, .inl (cL, 6400, .inr (.inl v_item)))]
def wp_M_eliminate   (v_companies : Int32) (v_accounts : Int32) (v_items : Int32) (v_held : (Nat → Int32)) (v_left : (Nat → Int64)) (v_item : (Nat → Int64)) (post : (Int32 × (Nat → Int64) × (Nat → Int64)) → Prop) : Prop := (∃ (I2 : Int32 → Int32 → (Nat → Int64) → (Nat → Int64) → Prop) (μ2 : Int32 → Int32 → (Nat → Int64) → (Nat → Int64) → Nat), I2 0 v_items v_left v_item ∧ ∀ (l1_2 : Int32) (v_items_2 : Int32) (v_left_2 : (Nat → Int64)) (v_item_2 : (Nat → Int64)), I2 l1_2 v_items_2 v_left_2 v_item_2 → ((v_companies ≤ l1_2 → post (v_items_2, v_left_2, v_item_2)) ∧ (¬ v_companies ≤ l1_2 → (∃ (I12 : Int32 → Int32 → (Nat → Int64) → (Nat → Int64) → Prop) (μ12 : Int32 → Int32 → (Nat → Int64) → (Nat → Int64) → Nat), I12 0 v_items_2 v_left_2 v_item_2 ∧ ∀ (l2_12 : Int32) (v_items_12 : Int32) (v_left_12 : (Nat → Int64)) (v_item_12 : (Nat → Int64)), I12 l2_12 v_items_12 v_left_12 v_item_12 → ((v_companies ≤ l2_12 → I2 (l1_2 + 1) v_items_12 v_left_12 v_item_12 ∧ μ2 (l1_2 + 1) v_items_12 v_left_12 v_item_12 < μ2 l1_2 v_items_2 v_left_2 v_item_2) ∧ (¬ v_companies ≤ l2_12 → ((l2_12 = l1_2 → I12 (l2_12 + 1) v_items_12 v_left_12 v_item_12 ∧ μ12 (l2_12 + 1) v_items_12 v_left_12 v_item_12 < μ12 l2_12 v_items_12 v_left_12 v_item_12) ∧ (¬ l2_12 = l1_2 → (wp_M_isControlled l1_2 v_held (fun (r27 : Int32) (u27 : Unit) => ((r27 = 0 → I12 (l2_12 + 1) v_items_12 v_left_12 v_item_12 ∧ μ12 (l2_12 + 1) v_items_12 v_left_12 v_item_12 < μ12 l2_12 v_items_12 v_left_12 v_item_12) ∧ (¬ r27 = 0 → (wp_M_isControlled l2_12 v_held (fun (r35 : Int32) (u35 : Unit) => ((¬ r35 = 0 → (∃ (I46 : Int32 → Int32 → (Nat → Int64) → (Nat → Int64) → Prop) (μ46 : Int32 → Int32 → (Nat → Int64) → (Nat → Int64) → Nat), I46 0 v_items_12 v_left_12 v_item_12 ∧ ∀ (l3_46 : Int32) (v_items_46 : Int32) (v_left_46 : (Nat → Int64)) (v_item_46 : (Nat → Int64)), I46 l3_46 v_items_46 v_left_46 v_item_46 → ((v_accounts ≤ l3_46 → I12 (l2_12 + 1) v_items_46 v_left_46 v_item_46 ∧ μ12 (l2_12 + 1) v_items_46 v_left_46 v_item_46 < μ12 l2_12 v_items_12 v_left_12 v_item_12) ∧ (¬ v_accounts ≤ l3_46 → (wp_M_cell l1_2 l3_46 l2_12 (fun (r61 : Int32) (u61 : Unit) => (vp_in r61 1872 ∧ (∀ x65 : Int64, x65 = (v_left_46 r61.toNatClampNeg) → (wp_M_cell l2_12 l3_46 l1_2 (fun (r74 : Int32) (u74 : Unit) => (vp_in r74 1872 ∧ (∀ x78 : Int64, x78 = (v_left_46 r74.toNatClampNeg) → (∃ J80 : Int32 → Prop, (∀ (s0_80 : Int32), J80 s0_80 → (∃ J115 : Int64 → Prop, (∀ (s0_115 : Int64), J115 s0_115 → (wp_M_cell l1_2 l3_46 l2_12 (fun (r160 : Int32) (u160 : Unit) => (∃ J163 : Int64 → Prop, (∀ (s0_163 : Int64), J163 s0_163 → (vp_in r160 1872 ∧ (wp_M_cell l2_12 l3_46 l1_2 (fun (r191 : Int32) (u191 : Unit) => (∃ J194 : Int64 → Prop, (∀ (s0_194 : Int64), J194 s0_194 → (vp_in r191 1872 ∧ (wp_M_cell l1_2 l3_46 l2_12 (fun (r222 : Int32) (u222 : Unit) => (vp_in r222 1872 ∧ ((((vp_updL (vp_updL v_left_46 r160.toNatClampNeg s0_163) r191.toNatClampNeg s0_194) r222.toNatClampNeg) = 0 → I46 (l3_46 + 1) v_items_46 (vp_updL (vp_updL v_left_46 r160.toNatClampNeg s0_163) r191.toNatClampNeg s0_194) v_item_46 ∧ μ46 (l3_46 + 1) v_items_46 (vp_updL (vp_updL v_left_46 r160.toNatClampNeg s0_163) r191.toNatClampNeg s0_194) v_item_46 < μ46 l3_46 v_items_46 v_left_46 v_item_46) ∧ (¬ ((vp_updL (vp_updL v_left_46 r160.toNatClampNeg s0_163) r191.toNatClampNeg s0_194) r222.toNatClampNeg) = 0 → (wp_M_open l1_2 l2_12 l3_46 v_items_46 (vp_updL (vp_updL v_left_46 r160.toNatClampNeg s0_163) r191.toNatClampNeg s0_194) v_item_46 (fun (u235 : Int32 × (Nat → Int64)) => I46 (l3_46 + 1) u235.1 (vp_updL (vp_updL v_left_46 r160.toNatClampNeg s0_163) r191.toNatClampNeg s0_194) u235.2 ∧ μ46 (l3_46 + 1) u235.1 (vp_updL (vp_updL v_left_46 r160.toNatClampNeg s0_163) r191.toNatClampNeg s0_194) u235.2 < μ46 l3_46 v_items_46 v_left_46 v_item_46))))))))) ∧ ((0 ≤ x78 → J194 (x78 - s0_115)) ∧ (¬ 0 ≤ x78 → J194 (x78 + s0_115)))))))) ∧ ((0 ≤ x65 → J163 (x65 - s0_115)) ∧ (¬ 0 ≤ x65 → J163 (x65 + s0_115))))))) ∧ ((s0_80 = 0 → J115 0) ∧ (¬ s0_80 = 0 → (wp_M_size x65 (fun (r122 : Int64) (u122 : Unit) => (wp_M_size x78 (fun (r127 : Int64) (u127 : Unit) => ((r127 ≤ r122 → (wp_M_size x78 (fun (r144 : Int64) (u144 : Unit) => J115 r144))) ∧ (¬ r127 ≤ r122 → (wp_M_size x65 (fun (r136 : Int64) (u136 : Unit) => J115 r136)))))))))))) ∧ ((x65 ≤ 0 → ((0 ≤ x65 → J80 0) ∧ (¬ 0 ≤ x65 → ((x78 ≤ 0 → J80 0) ∧ (¬ x78 ≤ 0 → J80 1))))) ∧ (¬ x65 ≤ 0 → ((x78 < 0 → J80 1) ∧ (¬ x78 < 0 → ((0 ≤ x65 → J80 0) ∧ (¬ 0 ≤ x65 → ((x78 ≤ 0 → J80 0) ∧ (¬ x78 ≤ 0 → J80 1))))))))))))))))))))) ∧ (r35 = 0 → I12 (l2_12 + 1) v_items_12 v_left_12 v_item_12 ∧ μ12 (l2_12 + 1) v_items_12 v_left_12 v_item_12 < μ12 l2_12 v_items_12 v_left_12 v_item_12))))))))))))))))
abbrev ws_M_eliminate : List Cond := .code y_M_eliminate prog_5_method_28_code 11 none :: kxW
abbrev rm_M_eliminate : Room := { frames := 2, cells := 0, slots := 0, locals := 45 }
abbrev QC_M_eliminate (dC : Nat → ClassId) (dI : Nat → Nat → Nat) (cI cL cZ : ClassId) (A : Nat → Prop)  (h0 a_currency a_sort a_closing a_average a_held a_sum a_told a_left a_step a_outside a_item : Nat) (v_thrown : Int32) (v_companies : Int32) (v_accounts : Int32) (v_done : Int32) (v_items : Int32) (v_held : (Nat → Int32)) (v_left : (Nat → Int64)) (v_item : (Nat → Int64)) (post : (Int32 × (Nat → Int64) × (Nat → Int64)) → Prop) : Array Value → State → Outcome → State → Prop := va_Qv post (fun (u : Int32 × (Nat → Int64) × (Nat → Int64)) t => kx_B (dC, dI) classes A (WS_M_eliminate cI cL cZ h0 a_currency a_sort a_closing a_average a_held a_sum a_told a_left a_step a_outside a_item v_thrown v_companies v_accounts v_done u.1 v_held u.2.1 u.2.2) t) A
set_option maxHeartbeats 4000000 in
set_option maxRecDepth 100000 in
theorem c_M_eliminate (l : Launch) (dC : Nat → ClassId) (dI : Nat → Nat → Nat) (cI cL cZ : ClassId)  (h0 a_currency a_sort a_closing a_average a_held a_sum a_told a_left a_step a_outside a_item : Nat) (v_thrown : Int32) (v_companies : Int32) (v_accounts : Int32) (v_done : Int32) (v_items : Int32) (v_held : (Nat → Int32)) (v_left : (Nat → Int64)) (v_item : (Nat → Int64)) (sz : Nat)  {post : (Int32 × (Nat → Int64) × (Nat → Int64)) → Prop} (hw : wp_M_eliminate v_companies v_accounts v_items v_held v_left v_item post) : Met l y_M_eliminate ws_M_eliminate rm_M_eliminate (kx_Pc (dC, dI) classes (kx_T cI cL cZ) (WS_M_eliminate cI cL cZ h0 a_currency a_sort a_closing a_average a_held a_sum a_told a_left a_step a_outside a_item v_thrown v_companies v_accounts v_done v_items v_held v_left v_item) sz [.ref h0]) (QC_M_eliminate dC dI cI cL cZ (va_A (WS_M_eliminate cI cL cZ h0 a_currency a_sort a_closing a_average a_held a_sum a_told a_left a_step a_outside a_item v_thrown v_companies v_accounts v_done v_items v_held v_left v_item) sz) h0 a_currency a_sort a_closing a_average a_held a_sum a_told a_left a_step a_outside a_item v_thrown v_companies v_accounts v_done v_items v_held v_left v_item post) 0 0 (va_A (WS_M_eliminate cI cL cZ h0 a_currency a_sort a_closing a_average a_held a_sum a_told a_left a_step a_outside a_item v_thrown v_companies v_accounts v_done v_items v_held v_left v_item) sz) := by
  refine Met.ofW (cc := prog_5_method_28_code) (maxL := 11) (ret := none) (by decide) rfl ?_
  intro p e s m args below meth c s₁ B hml hv
  obtain ⟨rfl, hsz, hP, hK, hD0, hN⟩ := hv
  have hx := B.exec
  have hb := B.bytes
  have hr := B.returns
  have hts := atoms_spec (ws := ws_M_eliminate) B.pre
  have hown : s.vm.findClass R_M = some m.cls := findClass_of_methodNamed B.named
  have hlocks := B.notSynchronized
  subst hsz
  have hD := hD0.self (sz := s.heap.size)
  generalize hAe : va_A (WS_M_eliminate cI cL cZ h0 a_currency a_sort a_closing a_average a_held a_sum a_told a_left a_step a_outside a_item v_thrown v_companies v_accounts v_done v_items v_held v_left v_item) s.heap.size = A at hD ⊢
  have hA : ∀ q : Nat, s.heap.size ≤ q → A q := fun q h => by rw [← hAe]; exact Or.inr h
  have hS : va_S A s.heap s.heap [] := va_S.rf
  have hP : va_P (dC, dI) classes (WS_M_eliminate cI cL cZ h0 a_currency a_sort a_closing a_average a_held a_sum a_told a_left a_step a_outside a_item v_thrown v_companies v_accounts v_done v_items v_held v_left v_item) s.heap := hP
  have hl := lv_entry ([.ref h0]) (n := 11) (Nat.le_of_ble_eq_true rfl)
  rw [lg_entry_eq]
  generalize (lg_sl ([.ref h0]) ++ List.replicate (11 - (lg_sl ([.ref h0])).length) Slot.unset).toArray = ls at hl ⊢
  have hl : lv_has ls 11 [(0, .ref h0)] := hl
  unfold wp_M_eliminate at hw
  refine (show ∀ (H : Heap) (locs : List Loc), va_P (dC, dI) classes (WS_M_eliminate cI cL cZ h0 a_currency a_sort a_closing a_average a_held a_sum a_told a_left a_step a_outside a_item v_thrown v_companies v_accounts v_done v_items v_held v_left v_item) H → va_S A s.heap H locs → W p l e (headSpec ws_M_eliminate rm_M_eliminate).room s m ([.ref h0] : List Value).toArray below meth c H locs 0 0 (MQ below (QC_M_eliminate dC dI cI cL cZ A h0 a_currency a_sort a_closing a_average a_held a_sum a_told a_left a_step a_outside a_item v_thrown v_companies v_accounts v_done v_items v_held v_left v_item post) ([.ref h0] : List Value).toArray s 0 0 A) (F0 m 0 ls []) from ?_) _ _ hP hS
  intro H locs hP hS
  refine lv_iconst (v := 0) hx hb d_M_eliminate_0 (by decide) ?_
  refine lv_istore_n (lv' := [(1, .int 0), (0, .ref h0)]) hx hb d_M_eliminate_1 rfl hl (by decide) rfl (fun ls hl => ?_)
  have hl := lv_sub hl [1, 0] rfl
  obtain ⟨I2, μ2, hi2, hs2⟩ := hw
  have L2 : ∀ (n : Nat) (l1_2 : Int32) (v_items_2 : Int32) (v_left_2 : (Nat → Int64)) (v_item_2 : (Nat → Int64)) (H : Heap) (locs : List Loc) (ls : Array Slot), μ2 l1_2 v_items_2 v_left_2 v_item_2 < n → I2 l1_2 v_items_2 v_left_2 v_item_2 → lv_has ls 11 [(0, .ref h0), (1, .int l1_2)] → va_P (dC, dI) classes (WS_M_eliminate cI cL cZ h0 a_currency a_sort a_closing a_average a_held a_sum a_told a_left a_step a_outside a_item v_thrown v_companies v_accounts v_done v_items_2 v_held v_left_2 v_item_2) H → va_D A (WS_M_eliminate cI cL cZ h0 a_currency a_sort a_closing a_average a_held a_sum a_told a_left a_step a_outside a_item v_thrown v_companies v_accounts v_done v_items_2 v_held v_left_2 v_item_2) → va_S A s.heap H locs → W p l e (headSpec ws_M_eliminate rm_M_eliminate).room s m ([.ref h0] : List Value).toArray below meth c H locs 0 0 (MQ below (QC_M_eliminate dC dI cI cL cZ A h0 a_currency a_sort a_closing a_average a_held a_sum a_told a_left a_step a_outside a_item v_thrown v_companies v_accounts v_done v_items v_held v_left v_item post) ([.ref h0] : List Value).toArray s 0 0 A) (F0 m 2 ls []) := by
    intro n
    induction n with
    | zero => intro l1_2 v_items_2 v_left_2 v_item_2 H locs ls hn; exact absurd hn (Nat.not_lt_zero _)
    | succ n ih2 =>
      intro l1_2 v_items_2 v_left_2 v_item_2 H locs ls hn2 hI hl hP hD hS
      have hw := hs2 l1_2 v_items_2 v_left_2 v_item_2 hI
      refine lv_iload_n hx hb d_M_eliminate_2 rfl (lv_at hl 1 rfl) ?_
      refine lv_aload_n hx hb d_M_eliminate_3 rfl (lv_at hl 0 rfl) ?_
      refine va_get (D := (dC, dI)) (ci := 3) (v := .int v_companies) (C := R_M) (T := F_M) (N := 16) hx hb hts (kx_in in_M) hown hK hP 0 rfl rfl 1 (by decide) (hts _ (kx_w iw_476)) (fun _ h9 => h9) rfl d_M_eliminate_4 ?_
      refine lv_icmp_ge (tgt := 256) hx hb d_M_eliminate_7 rfl (fun hc => ?_) (fun hc => ?_)
      ·
        have hw := hw.1 hc
        exact W.vret hx hb hr (fun t ht hW => ⟨⟨(v_items_2, v_left_2, v_item_2), rfl, hw, ⟨by rw [ht]; exact hP, hD⟩⟩, hS.F ht⟩) hS.2.2 d_M_eliminate_256
      ·
        have hw := hw.2 hc
        refine lv_iconst (v := 0) hx hb d_M_eliminate_10 (by decide) ?_
        refine lv_istore_n (lv' := [(2, .int 0), (0, .ref h0), (1, .int l1_2)]) hx hb d_M_eliminate_11 rfl hl (by decide) rfl (fun ls hl => ?_)
        have hl := lv_sub hl [1, 2, 0] rfl
        obtain ⟨I12, μ12, hi12, hs12⟩ := hw
        have L12 : ∀ (n : Nat) (l2_12 : Int32) (v_items_12 : Int32) (v_left_12 : (Nat → Int64)) (v_item_12 : (Nat → Int64)) (H : Heap) (locs : List Loc) (ls : Array Slot), μ12 l2_12 v_items_12 v_left_12 v_item_12 < n → I12 l2_12 v_items_12 v_left_12 v_item_12 → lv_has ls 11 [(0, .ref h0), (1, .int l1_2), (2, .int l2_12)] → va_P (dC, dI) classes (WS_M_eliminate cI cL cZ h0 a_currency a_sort a_closing a_average a_held a_sum a_told a_left a_step a_outside a_item v_thrown v_companies v_accounts v_done v_items_12 v_held v_left_12 v_item_12) H → va_D A (WS_M_eliminate cI cL cZ h0 a_currency a_sort a_closing a_average a_held a_sum a_told a_left a_step a_outside a_item v_thrown v_companies v_accounts v_done v_items_12 v_held v_left_12 v_item_12) → va_S A s.heap H locs → W p l e (headSpec ws_M_eliminate rm_M_eliminate).room s m ([.ref h0] : List Value).toArray below meth c H locs 0 0 (MQ below (QC_M_eliminate dC dI cI cL cZ A h0 a_currency a_sort a_closing a_average a_held a_sum a_told a_left a_step a_outside a_item v_thrown v_companies v_accounts v_done v_items v_held v_left v_item post) ([.ref h0] : List Value).toArray s 0 0 A) (F0 m 12 ls []) := by
          intro n
          induction n with
          | zero => intro l2_12 v_items_12 v_left_12 v_item_12 H locs ls hn; exact absurd hn (Nat.not_lt_zero _)
          | succ n ih12 =>
            intro l2_12 v_items_12 v_left_12 v_item_12 H locs ls hn12 hI hl hP hD hS
            have hw := hs12 l2_12 v_items_12 v_left_12 v_item_12 hI
            refine lv_iload_n hx hb d_M_eliminate_12 rfl (lv_at hl 2 rfl) ?_
            refine lv_aload_n hx hb d_M_eliminate_13 rfl (lv_at hl 0 rfl) ?_
            refine va_get (D := (dC, dI)) (ci := 3) (v := .int v_companies) (C := R_M) (T := F_M) (N := 16) hx hb hts (kx_in in_M) hown hK hP 0 rfl rfl 1 (by decide) (hts _ (kx_w iw_476)) (fun _ h9 => h9) rfl d_M_eliminate_14 ?_
            refine lv_icmp_ge (tgt := 250) hx hb d_M_eliminate_17 rfl (fun hc => ?_) (fun hc => ?_)
            ·
              have hw := hw.1 hc
              refine lv_iinc (v := (l1_2 + 1)) (lv' := [(1, .int (l1_2 + 1)), (0, .ref h0), (2, .int l2_12)]) hx hb d_M_eliminate_250 hl (k := 1) rfl rfl (by decide) rfl (fun ls hl => ?_)
              refine lv_goto (tgt := 2) hx hb d_M_eliminate_253 rfl ?_
              have hl := lv_sub hl [1, 0] rfl
              exact ih2 (l1_2 + 1) v_items_12 v_left_12 v_item_12 _ _ _ (Nat.lt_of_lt_of_le hw.2 (Nat.le_of_lt_succ hn2)) hw.1 hl hP hD hS
            ·
              have hw := hw.2 hc
              refine lv_iload_n hx hb d_M_eliminate_20 rfl (lv_at hl 2 rfl) ?_
              refine lv_iload_n hx hb d_M_eliminate_21 rfl (lv_at hl 1 rfl) ?_
              refine lv_icmp_eq (tgt := 244) hx hb d_M_eliminate_22 rfl (fun hc => ?_) (fun hc => ?_)
              ·
                have hw := hw.1 hc
                refine lv_iinc (v := (l2_12 + 1)) (lv' := [(2, .int (l2_12 + 1)), (0, .ref h0), (1, .int l1_2)]) hx hb d_M_eliminate_244 hl (k := 2) rfl rfl (by decide) rfl (fun ls hl => ?_)
                refine lv_goto (tgt := 12) hx hb d_M_eliminate_247 rfl ?_
                have hl := lv_sub hl [1, 2, 0] rfl
                exact ih12 (l2_12 + 1) v_items_12 v_left_12 v_item_12 _ _ _ (Nat.lt_of_lt_of_le hw.2 (Nat.le_of_lt_succ hn12)) hw.1 hl hP hD hS
              ·
                have hw := hw.2 hc
                refine lv_aload_n hx hb d_M_eliminate_25 rfl (lv_at hl 0 rfl) ?_
                refine lv_iload_n hx hb d_M_eliminate_26 rfl (lv_at hl 1 rfl) ?_
                refine kx_calli (ws' := fun u27 => (WS_M_eliminate cI cL cZ h0 a_currency a_sort a_closing a_average a_held a_sum a_told a_left a_step a_outside a_item v_thrown v_companies v_accounts v_done v_items_12 v_held v_left_12 v_item_12)) (va_runV (As := [.int l1_2]) (rest := []) ⟨hx, hb, hml, hown, hts⟩ (c_M_isControlled l dC dI cI cL cZ h0 a_currency a_sort a_closing a_average a_held a_sum a_told a_left a_step a_outside a_item v_thrown v_companies v_accounts v_done v_items_12 v_held H.size l1_2 hw) ⟨(callB_of 1 hts (kx_good iw_598) rfl rfl rfl (hts _ (kx_w iw_4)) (hts _ (kx_w iw_595)) (by decide +kernel) ⟨Nat.le_of_ble_eq_true rfl, Nat.le_of_ble_eq_true rfl⟩), (hts _ (kx_w iw_597)), (hts _ (kx_w sl_M_isControlled))⟩ (kx_preV hN hK hP hD [0, 1] (by decide) rfl 0 rfl rfl) rfl rfl hl.1 rfl (lv_room (Nat.le_of_ble_eq_true rfl)) d_M_eliminate_27 ⟨Nat.le_of_ble_eq_true rfl, Nat.le_of_ble_eq_true rfl⟩) hP hD hS hA [0, 1] [2, 3] rfl rfl (by decide) (by decide) [2, 3, 0, 1] (by decide) (fun _ => rfl) (fun r27 u27 H locs hw hP hD hS => ?_)
                have hP : va_P (dC, dI) classes (WS_M_eliminate cI cL cZ h0 a_currency a_sort a_closing a_average a_held a_sum a_told a_left a_step a_outside a_item v_thrown v_companies v_accounts v_done v_items_12 v_held v_left_12 v_item_12) H := hP
                have hD : va_D A (WS_M_eliminate cI cL cZ h0 a_currency a_sort a_closing a_average a_held a_sum a_told a_left a_step a_outside a_item v_thrown v_companies v_accounts v_done v_items_12 v_held v_left_12 v_item_12) := hD
                refine lv_if_eq (tgt := 244) hx hb d_M_eliminate_30 rfl (fun hc => ?_) (fun hc => ?_)
                ·
                  have hw := hw.1 hc
                  refine lv_iinc (v := (l2_12 + 1)) (lv' := [(2, .int (l2_12 + 1)), (0, .ref h0), (1, .int l1_2)]) hx hb d_M_eliminate_244 hl (k := 2) rfl rfl (by decide) rfl (fun ls hl => ?_)
                  refine lv_goto (tgt := 12) hx hb d_M_eliminate_247 rfl ?_
                  have hl := lv_sub hl [1, 2, 0] rfl
                  exact ih12 (l2_12 + 1) v_items_12 v_left_12 v_item_12 _ _ _ (Nat.lt_of_lt_of_le hw.2 (Nat.le_of_lt_succ hn12)) hw.1 hl hP hD hS
                ·
                  have hw := hw.2 hc
                  refine lv_aload_n hx hb d_M_eliminate_33 rfl (lv_at hl 0 rfl) ?_
                  refine lv_iload_n hx hb d_M_eliminate_34 rfl (lv_at hl 2 rfl) ?_
                  refine kx_calli (ws' := fun u35 => (WS_M_eliminate cI cL cZ h0 a_currency a_sort a_closing a_average a_held a_sum a_told a_left a_step a_outside a_item v_thrown v_companies v_accounts v_done v_items_12 v_held v_left_12 v_item_12)) (va_runV (As := [.int l2_12]) (rest := []) ⟨hx, hb, hml, hown, hts⟩ (c_M_isControlled l dC dI cI cL cZ h0 a_currency a_sort a_closing a_average a_held a_sum a_told a_left a_step a_outside a_item v_thrown v_companies v_accounts v_done v_items_12 v_held H.size l2_12 hw) ⟨(callB_of 1 hts (kx_good iw_598) rfl rfl rfl (hts _ (kx_w iw_4)) (hts _ (kx_w iw_595)) (by decide +kernel) ⟨Nat.le_of_ble_eq_true rfl, Nat.le_of_ble_eq_true rfl⟩), (hts _ (kx_w iw_597)), (hts _ (kx_w sl_M_isControlled))⟩ (kx_preV hN hK hP hD [0, 1] (by decide) rfl 0 rfl rfl) rfl rfl hl.1 rfl (lv_room (Nat.le_of_ble_eq_true rfl)) d_M_eliminate_35 ⟨Nat.le_of_ble_eq_true rfl, Nat.le_of_ble_eq_true rfl⟩) hP hD hS hA [0, 1] [2, 3] rfl rfl (by decide) (by decide) [2, 3, 0, 1] (by decide) (fun _ => rfl) (fun r35 u35 H locs hw hP hD hS => ?_)
                  have hP : va_P (dC, dI) classes (WS_M_eliminate cI cL cZ h0 a_currency a_sort a_closing a_average a_held a_sum a_told a_left a_step a_outside a_item v_thrown v_companies v_accounts v_done v_items_12 v_held v_left_12 v_item_12) H := hP
                  have hD : va_D A (WS_M_eliminate cI cL cZ h0 a_currency a_sort a_closing a_average a_held a_sum a_told a_left a_step a_outside a_item v_thrown v_companies v_accounts v_done v_items_12 v_held v_left_12 v_item_12) := hD
                  refine lv_if_ne (tgt := 44) hx hb d_M_eliminate_38 rfl (fun hc => ?_) (fun hc => ?_)
                  ·
                    have hw := hw.1 hc
                    refine lv_iconst (v := 0) hx hb d_M_eliminate_44 (by decide) ?_
                    refine lv_istore_n (lv' := [(3, .int 0), (0, .ref h0), (1, .int l1_2), (2, .int l2_12)]) hx hb d_M_eliminate_45 rfl hl (by decide) rfl (fun ls hl => ?_)
                    have hl := lv_sub hl [1, 2, 3, 0] rfl
                    obtain ⟨I46, μ46, hi46, hs46⟩ := hw
                    have L46 : ∀ (n : Nat) (l3_46 : Int32) (v_items_46 : Int32) (v_left_46 : (Nat → Int64)) (v_item_46 : (Nat → Int64)) (H : Heap) (locs : List Loc) (ls : Array Slot), μ46 l3_46 v_items_46 v_left_46 v_item_46 < n → I46 l3_46 v_items_46 v_left_46 v_item_46 → lv_has ls 11 [(0, .ref h0), (1, .int l1_2), (2, .int l2_12), (3, .int l3_46)] → va_P (dC, dI) classes (WS_M_eliminate cI cL cZ h0 a_currency a_sort a_closing a_average a_held a_sum a_told a_left a_step a_outside a_item v_thrown v_companies v_accounts v_done v_items_46 v_held v_left_46 v_item_46) H → va_D A (WS_M_eliminate cI cL cZ h0 a_currency a_sort a_closing a_average a_held a_sum a_told a_left a_step a_outside a_item v_thrown v_companies v_accounts v_done v_items_46 v_held v_left_46 v_item_46) → va_S A s.heap H locs → W p l e (headSpec ws_M_eliminate rm_M_eliminate).room s m ([.ref h0] : List Value).toArray below meth c H locs 0 0 (MQ below (QC_M_eliminate dC dI cI cL cZ A h0 a_currency a_sort a_closing a_average a_held a_sum a_told a_left a_step a_outside a_item v_thrown v_companies v_accounts v_done v_items v_held v_left v_item post) ([.ref h0] : List Value).toArray s 0 0 A) (F0 m 46 ls []) := by
                      intro n
                      induction n with
                      | zero => intro l3_46 v_items_46 v_left_46 v_item_46 H locs ls hn; exact absurd hn (Nat.not_lt_zero _)
                      | succ n ih46 =>
                        intro l3_46 v_items_46 v_left_46 v_item_46 H locs ls hn46 hI hl hP hD hS
                        have hw := hs46 l3_46 v_items_46 v_left_46 v_item_46 hI
                        refine lv_iload_n hx hb d_M_eliminate_46 rfl (lv_at hl 3 rfl) ?_
                        refine lv_aload_n hx hb d_M_eliminate_47 rfl (lv_at hl 0 rfl) ?_
                        refine va_get (D := (dC, dI)) (ci := 3) (v := .int v_accounts) (C := R_M) (T := F_M) (N := 16) hx hb hts (kx_in in_M) hown hK hP 0 rfl rfl 2 (by decide) (hts _ (kx_w iw_477)) (fun _ h9 => h9) rfl d_M_eliminate_48 ?_
                        refine lv_icmp_ge (tgt := 244) hx hb d_M_eliminate_51 rfl (fun hc => ?_) (fun hc => ?_)
                        ·
                          have hw := hw.1 hc
                          refine lv_iinc (v := (l2_12 + 1)) (lv' := [(2, .int (l2_12 + 1)), (0, .ref h0), (1, .int l1_2), (3, .int l3_46)]) hx hb d_M_eliminate_244 hl (k := 2) rfl rfl (by decide) rfl (fun ls hl => ?_)
                          refine lv_goto (tgt := 12) hx hb d_M_eliminate_247 rfl ?_
                          have hl := lv_sub hl [1, 2, 0] rfl
                          exact ih12 (l2_12 + 1) v_items_46 v_left_46 v_item_46 _ _ _ (Nat.lt_of_lt_of_le hw.2 (Nat.le_of_lt_succ hn12)) hw.1 hl hP hD hS
                        ·
                          have hw := hw.2 hc
                          refine lv_aload_n hx hb d_M_eliminate_54 rfl (lv_at hl 0 rfl) ?_
                          refine va_get (D := (dC, dI)) (ci := 3) (v := .ref a_left) (C := R_M) (T := F_M) (N := 16) hx hb hts (kx_in in_M) hown hK hP 0 rfl rfl 11 (by decide) (hts _ (kx_w iw_486)) (fun _ h9 => h9) rfl d_M_eliminate_55 ?_
                          refine lv_iload_n hx hb d_M_eliminate_58 rfl (lv_at hl 1 rfl) ?_
                          refine lv_iload_n hx hb d_M_eliminate_59 rfl (lv_at hl 3 rfl) ?_
                          refine lv_iload_n hx hb d_M_eliminate_60 rfl (lv_at hl 2 rfl) ?_
                          refine kx_calli (ws' := fun u61 => (WS_M_eliminate cI cL cZ h0 a_currency a_sort a_closing a_average a_held a_sum a_told a_left a_step a_outside a_item v_thrown v_companies v_accounts v_done v_items_46 v_held v_left_46 v_item_46)) (va_runS (As := [.int l1_2, .int l3_46, .int l2_12]) (rest := [.ref a_left]) ⟨hx, hb, hml, hown, hts⟩ (c_M_cell l dC dI cI cL cZ  H.size l1_2 l3_46 l2_12 hw) ⟨(callB_of 3 hts (kx_good iw_573) rfl rfl rfl (hts _ (kx_w iw_4)) (hts _ (kx_w iw_571)) (by decide +kernel) ⟨Nat.le_of_ble_eq_true rfl, Nat.le_of_ble_eq_true rfl⟩), (hts _ (kx_w iw_572))⟩ (kx_preS hN hK hP hD [] (by decide) rfl) rfl rfl hl.1 rfl (lv_room (Nat.le_of_ble_eq_true rfl)) d_M_eliminate_61 ⟨Nat.le_of_ble_eq_true rfl, Nat.le_of_ble_eq_true rfl⟩) hP hD hS hA [] [0, 1, 2, 3] rfl rfl (by decide) (by decide) [0, 1, 2, 3] (by decide) (fun _ => rfl) (fun r61 u61 H locs hw hP hD hS => ?_)
                          have hP : va_P (dC, dI) classes (WS_M_eliminate cI cL cZ h0 a_currency a_sort a_closing a_average a_held a_sum a_told a_left a_step a_outside a_item v_thrown v_companies v_accounts v_done v_items_46 v_held v_left_46 v_item_46) H := hP
                          have hD : va_D A (WS_M_eliminate cI cL cZ h0 a_currency a_sort a_closing a_average a_held a_sum a_told a_left a_step a_outside a_item v_thrown v_companies v_accounts v_done v_items_46 v_held v_left_46 v_item_46) := hD
                          obtain ⟨hi, hw⟩ := hw
                          refine va_lald hx hb hK hP 2 1 rfl rfl hi d_M_eliminate_64 ?_
                          refine lv_topl (fun x65 e65 => ?_)
                          have hw := hw x65 e65
                          refine lv_lstore (lv' := [(4, .long x65), (0, .ref h0), (1, .int l1_2), (2, .int l2_12), (3, .int l3_46)]) hx hb d_M_eliminate_65 hl (by decide) rfl (fun ls hl => ?_)
                          refine lv_aload_n hx hb d_M_eliminate_67 rfl (lv_at hl 1 rfl) ?_
                          refine va_get (D := (dC, dI)) (ci := 3) (v := .ref a_left) (C := R_M) (T := F_M) (N := 16) hx hb hts (kx_in in_M) hown hK hP 0 rfl rfl 11 (by decide) (hts _ (kx_w iw_486)) (fun _ h9 => h9) rfl d_M_eliminate_68 ?_
                          refine lv_iload_n hx hb d_M_eliminate_71 rfl (lv_at hl 3 rfl) ?_
                          refine lv_iload_n hx hb d_M_eliminate_72 rfl (lv_at hl 4 rfl) ?_
                          refine lv_iload_n hx hb d_M_eliminate_73 rfl (lv_at hl 2 rfl) ?_
                          refine kx_calli (ws' := fun u74 => (WS_M_eliminate cI cL cZ h0 a_currency a_sort a_closing a_average a_held a_sum a_told a_left a_step a_outside a_item v_thrown v_companies v_accounts v_done v_items_46 v_held v_left_46 v_item_46)) (va_runS (As := [.int l2_12, .int l3_46, .int l1_2]) (rest := [.ref a_left]) ⟨hx, hb, hml, hown, hts⟩ (c_M_cell l dC dI cI cL cZ  H.size l2_12 l3_46 l1_2 hw) ⟨(callB_of 3 hts (kx_good iw_573) rfl rfl rfl (hts _ (kx_w iw_4)) (hts _ (kx_w iw_571)) (by decide +kernel) ⟨Nat.le_of_ble_eq_true rfl, Nat.le_of_ble_eq_true rfl⟩), (hts _ (kx_w iw_572))⟩ (kx_preS hN hK hP hD [] (by decide) rfl) rfl rfl hl.1 rfl (lv_room (Nat.le_of_ble_eq_true rfl)) d_M_eliminate_74 ⟨Nat.le_of_ble_eq_true rfl, Nat.le_of_ble_eq_true rfl⟩) hP hD hS hA [] [0, 1, 2, 3] rfl rfl (by decide) (by decide) [0, 1, 2, 3] (by decide) (fun _ => rfl) (fun r74 u74 H locs hw hP hD hS => ?_)
                          have hP : va_P (dC, dI) classes (WS_M_eliminate cI cL cZ h0 a_currency a_sort a_closing a_average a_held a_sum a_told a_left a_step a_outside a_item v_thrown v_companies v_accounts v_done v_items_46 v_held v_left_46 v_item_46) H := hP
                          have hD : va_D A (WS_M_eliminate cI cL cZ h0 a_currency a_sort a_closing a_average a_held a_sum a_told a_left a_step a_outside a_item v_thrown v_companies v_accounts v_done v_items_46 v_held v_left_46 v_item_46) := hD
                          obtain ⟨hi, hw⟩ := hw
                          refine va_lald hx hb hK hP 2 1 rfl rfl hi d_M_eliminate_77 ?_
                          refine lv_topl (fun x78 e78 => ?_)
                          have hw := hw x78 e78
                          refine lv_lstore (lv' := [(6, .long x78), (4, .long x65), (0, .ref h0), (1, .int l1_2), (2, .int l2_12), (3, .int l3_46)]) hx hb d_M_eliminate_78 hl (by decide) rfl (fun ls hl => ?_)
                          obtain ⟨J80, hJ80, hw⟩ := hw
                          have jn80 : ∀ (s0_80 : Int32) (H : Heap) (locs : List Loc) (ls : Array Slot), J80 s0_80 → lv_has ls 11 [(0, .ref h0), (1, .int l1_2), (2, .int l2_12), (3, .int l3_46), (4, .long x65), (6, .long x78)] → va_P (dC, dI) classes (WS_M_eliminate cI cL cZ h0 a_currency a_sort a_closing a_average a_held a_sum a_told a_left a_step a_outside a_item v_thrown v_companies v_accounts v_done v_items_46 v_held v_left_46 v_item_46) H → va_D A (WS_M_eliminate cI cL cZ h0 a_currency a_sort a_closing a_average a_held a_sum a_told a_left a_step a_outside a_item v_thrown v_companies v_accounts v_done v_items_46 v_held v_left_46 v_item_46) → va_S A s.heap H locs → W p l e (headSpec ws_M_eliminate rm_M_eliminate).room s m ([.ref h0] : List Value).toArray below meth c H locs 0 0 (MQ below (QC_M_eliminate dC dI cI cL cZ A h0 a_currency a_sort a_closing a_average a_held a_sum a_told a_left a_step a_outside a_item v_thrown v_companies v_accounts v_done v_items v_held v_left v_item post) ([.ref h0] : List Value).toArray s 0 0 A) (F0 m 113 ls [.int s0_80]) := by
                            intro s0_80 H locs ls hw hl hP hD hS
                            have hw := hJ80 s0_80 hw
                            refine lv_istore (lv' := [(8, .int s0_80), (0, .ref h0), (1, .int l1_2), (2, .int l2_12), (3, .int l3_46), (4, .long x65), (6, .long x78)]) hx hb d_M_eliminate_113 hl (by decide) rfl (fun ls hl => ?_)
                            obtain ⟨J115, hJ115, hw⟩ := hw
                            have jn115 : ∀ (s0_115 : Int64) (H : Heap) (locs : List Loc) (ls : Array Slot), J115 s0_115 → lv_has ls 11 [(0, .ref h0), (1, .int l1_2), (2, .int l2_12), (3, .int l3_46), (4, .long x65), (6, .long x78), (8, .int s0_80)] → va_P (dC, dI) classes (WS_M_eliminate cI cL cZ h0 a_currency a_sort a_closing a_average a_held a_sum a_told a_left a_step a_outside a_item v_thrown v_companies v_accounts v_done v_items_46 v_held v_left_46 v_item_46) H → va_D A (WS_M_eliminate cI cL cZ h0 a_currency a_sort a_closing a_average a_held a_sum a_told a_left a_step a_outside a_item v_thrown v_companies v_accounts v_done v_items_46 v_held v_left_46 v_item_46) → va_S A s.heap H locs → W p l e (headSpec ws_M_eliminate rm_M_eliminate).room s m ([.ref h0] : List Value).toArray below meth c H locs 0 0 (MQ below (QC_M_eliminate dC dI cI cL cZ A h0 a_currency a_sort a_closing a_average a_held a_sum a_told a_left a_step a_outside a_item v_thrown v_companies v_accounts v_done v_items v_held v_left v_item post) ([.ref h0] : List Value).toArray s 0 0 A) (F0 m 151 ls [.long s0_115]) := by
                              intro s0_115 H locs ls hw hl hP hD hS
                              have hw := hJ115 s0_115 hw
                              refine lv_lstore (lv' := [(9, .long s0_115), (0, .ref h0), (1, .int l1_2), (2, .int l2_12), (3, .int l3_46), (4, .long x65), (6, .long x78), (8, .int s0_80)]) hx hb d_M_eliminate_151 hl (by decide) rfl (fun ls hl => ?_)
                              refine lv_aload_n hx hb d_M_eliminate_153 rfl (lv_at hl 1 rfl) ?_
                              refine va_get (D := (dC, dI)) (ci := 3) (v := .ref a_left) (C := R_M) (T := F_M) (N := 16) hx hb hts (kx_in in_M) hown hK hP 0 rfl rfl 11 (by decide) (hts _ (kx_w iw_486)) (fun _ h9 => h9) rfl d_M_eliminate_154 ?_
                              refine lv_iload_n hx hb d_M_eliminate_157 rfl (lv_at hl 2 rfl) ?_
                              refine lv_iload_n hx hb d_M_eliminate_158 rfl (lv_at hl 4 rfl) ?_
                              refine lv_iload_n hx hb d_M_eliminate_159 rfl (lv_at hl 3 rfl) ?_
                              refine kx_calli (ws' := fun u160 => (WS_M_eliminate cI cL cZ h0 a_currency a_sort a_closing a_average a_held a_sum a_told a_left a_step a_outside a_item v_thrown v_companies v_accounts v_done v_items_46 v_held v_left_46 v_item_46)) (va_runS (As := [.int l1_2, .int l3_46, .int l2_12]) (rest := [.ref a_left]) ⟨hx, hb, hml, hown, hts⟩ (c_M_cell l dC dI cI cL cZ  H.size l1_2 l3_46 l2_12 hw) ⟨(callB_of 3 hts (kx_good iw_573) rfl rfl rfl (hts _ (kx_w iw_4)) (hts _ (kx_w iw_571)) (by decide +kernel) ⟨Nat.le_of_ble_eq_true rfl, Nat.le_of_ble_eq_true rfl⟩), (hts _ (kx_w iw_572))⟩ (kx_preS hN hK hP hD [] (by decide) rfl) rfl rfl hl.1 rfl (lv_room (Nat.le_of_ble_eq_true rfl)) d_M_eliminate_160 ⟨Nat.le_of_ble_eq_true rfl, Nat.le_of_ble_eq_true rfl⟩) hP hD hS hA [] [0, 1, 2, 3] rfl rfl (by decide) (by decide) [0, 1, 2, 3] (by decide) (fun _ => rfl) (fun r160 u160 H locs hw hP hD hS => ?_)
                              have hP : va_P (dC, dI) classes (WS_M_eliminate cI cL cZ h0 a_currency a_sort a_closing a_average a_held a_sum a_told a_left a_step a_outside a_item v_thrown v_companies v_accounts v_done v_items_46 v_held v_left_46 v_item_46) H := hP
                              have hD : va_D A (WS_M_eliminate cI cL cZ h0 a_currency a_sort a_closing a_average a_held a_sum a_told a_left a_step a_outside a_item v_thrown v_companies v_accounts v_done v_items_46 v_held v_left_46 v_item_46) := hD
                              obtain ⟨J163, hJ163, hw⟩ := hw
                              have jn163 : ∀ (s0_163 : Int64) (H : Heap) (locs : List Loc) (ls : Array Slot), J163 s0_163 → lv_has ls 11 [(0, .ref h0), (1, .int l1_2), (2, .int l2_12), (3, .int l3_46), (4, .long x65), (6, .long x78), (8, .int s0_80), (9, .long s0_115)] → va_P (dC, dI) classes (WS_M_eliminate cI cL cZ h0 a_currency a_sort a_closing a_average a_held a_sum a_told a_left a_step a_outside a_item v_thrown v_companies v_accounts v_done v_items_46 v_held v_left_46 v_item_46) H → va_D A (WS_M_eliminate cI cL cZ h0 a_currency a_sort a_closing a_average a_held a_sum a_told a_left a_step a_outside a_item v_thrown v_companies v_accounts v_done v_items_46 v_held v_left_46 v_item_46) → va_S A s.heap H locs → W p l e (headSpec ws_M_eliminate rm_M_eliminate).room s m ([.ref h0] : List Value).toArray below meth c H locs 0 0 (MQ below (QC_M_eliminate dC dI cI cL cZ A h0 a_currency a_sort a_closing a_average a_held a_sum a_told a_left a_step a_outside a_item v_thrown v_companies v_accounts v_done v_items v_held v_left v_item post) ([.ref h0] : List Value).toArray s 0 0 A) (F0 m 183 ls [.long s0_163, .int r160, .ref a_left]) := by
                                intro s0_163 H locs ls hw hl hP hD hS
                                have hw := hJ163 s0_163 hw
                                obtain ⟨hi, hw⟩ := hw
                                refine va_last hx hb hK hP hD hS 2 1 rfl rfl hi d_M_eliminate_183 (fun H locs hP hD hS => ?_)
                                have hP : va_P (dC, dI) classes (WS_M_eliminate cI cL cZ h0 a_currency a_sort a_closing a_average a_held a_sum a_told a_left a_step a_outside a_item v_thrown v_companies v_accounts v_done v_items_46 v_held (vp_updL v_left_46 r160.toNatClampNeg s0_163) v_item_46) H := hP
                                have hD : va_D A (WS_M_eliminate cI cL cZ h0 a_currency a_sort a_closing a_average a_held a_sum a_told a_left a_step a_outside a_item v_thrown v_companies v_accounts v_done v_items_46 v_held (vp_updL v_left_46 r160.toNatClampNeg s0_163) v_item_46) := hD
                                refine lv_aload_n hx hb d_M_eliminate_184 rfl (lv_at hl 0 rfl) ?_
                                refine va_get (D := (dC, dI)) (ci := 3) (v := .ref a_left) (C := R_M) (T := F_M) (N := 16) hx hb hts (kx_in in_M) hown hK hP 0 rfl rfl 11 (by decide) (hts _ (kx_w iw_486)) (fun _ h9 => h9) rfl d_M_eliminate_185 ?_
                                refine lv_iload_n hx hb d_M_eliminate_188 rfl (lv_at hl 2 rfl) ?_
                                refine lv_iload_n hx hb d_M_eliminate_189 rfl (lv_at hl 3 rfl) ?_
                                refine lv_iload_n hx hb d_M_eliminate_190 rfl (lv_at hl 1 rfl) ?_
                                refine kx_calli (ws' := fun u191 => (WS_M_eliminate cI cL cZ h0 a_currency a_sort a_closing a_average a_held a_sum a_told a_left a_step a_outside a_item v_thrown v_companies v_accounts v_done v_items_46 v_held (vp_updL v_left_46 r160.toNatClampNeg s0_163) v_item_46)) (va_runS (As := [.int l2_12, .int l3_46, .int l1_2]) (rest := [.ref a_left]) ⟨hx, hb, hml, hown, hts⟩ (c_M_cell l dC dI cI cL cZ  H.size l2_12 l3_46 l1_2 hw) ⟨(callB_of 3 hts (kx_good iw_573) rfl rfl rfl (hts _ (kx_w iw_4)) (hts _ (kx_w iw_571)) (by decide +kernel) ⟨Nat.le_of_ble_eq_true rfl, Nat.le_of_ble_eq_true rfl⟩), (hts _ (kx_w iw_572))⟩ (kx_preS hN hK hP hD [] (by decide) rfl) rfl rfl hl.1 rfl (lv_room (Nat.le_of_ble_eq_true rfl)) d_M_eliminate_191 ⟨Nat.le_of_ble_eq_true rfl, Nat.le_of_ble_eq_true rfl⟩) hP hD hS hA [] [0, 1, 2, 3] rfl rfl (by decide) (by decide) [0, 1, 2, 3] (by decide) (fun _ => rfl) (fun r191 u191 H locs hw hP hD hS => ?_)
                                have hP : va_P (dC, dI) classes (WS_M_eliminate cI cL cZ h0 a_currency a_sort a_closing a_average a_held a_sum a_told a_left a_step a_outside a_item v_thrown v_companies v_accounts v_done v_items_46 v_held (vp_updL v_left_46 r160.toNatClampNeg s0_163) v_item_46) H := hP
                                have hD : va_D A (WS_M_eliminate cI cL cZ h0 a_currency a_sort a_closing a_average a_held a_sum a_told a_left a_step a_outside a_item v_thrown v_companies v_accounts v_done v_items_46 v_held (vp_updL v_left_46 r160.toNatClampNeg s0_163) v_item_46) := hD
                                obtain ⟨J194, hJ194, hw⟩ := hw
                                have jn194 : ∀ (s0_194 : Int64) (H : Heap) (locs : List Loc) (ls : Array Slot), J194 s0_194 → lv_has ls 11 [(0, .ref h0), (1, .int l1_2), (2, .int l2_12), (3, .int l3_46), (4, .long x65), (6, .long x78), (8, .int s0_80), (9, .long s0_115)] → va_P (dC, dI) classes (WS_M_eliminate cI cL cZ h0 a_currency a_sort a_closing a_average a_held a_sum a_told a_left a_step a_outside a_item v_thrown v_companies v_accounts v_done v_items_46 v_held (vp_updL v_left_46 r160.toNatClampNeg s0_163) v_item_46) H → va_D A (WS_M_eliminate cI cL cZ h0 a_currency a_sort a_closing a_average a_held a_sum a_told a_left a_step a_outside a_item v_thrown v_companies v_accounts v_done v_items_46 v_held (vp_updL v_left_46 r160.toNatClampNeg s0_163) v_item_46) → va_S A s.heap H locs → W p l e (headSpec ws_M_eliminate rm_M_eliminate).room s m ([.ref h0] : List Value).toArray below meth c H locs 0 0 (MQ below (QC_M_eliminate dC dI cI cL cZ A h0 a_currency a_sort a_closing a_average a_held a_sum a_told a_left a_step a_outside a_item v_thrown v_companies v_accounts v_done v_items v_held v_left v_item post) ([.ref h0] : List Value).toArray s 0 0 A) (F0 m 214 ls [.long s0_194, .int r191, .ref a_left]) := by
                                  intro s0_194 H locs ls hw hl hP hD hS
                                  have hw := hJ194 s0_194 hw
                                  obtain ⟨hi, hw⟩ := hw
                                  refine va_last hx hb hK hP hD hS 2 1 rfl rfl hi d_M_eliminate_214 (fun H locs hP hD hS => ?_)
                                  have hP : va_P (dC, dI) classes (WS_M_eliminate cI cL cZ h0 a_currency a_sort a_closing a_average a_held a_sum a_told a_left a_step a_outside a_item v_thrown v_companies v_accounts v_done v_items_46 v_held (vp_updL (vp_updL v_left_46 r160.toNatClampNeg s0_163) r191.toNatClampNeg s0_194) v_item_46) H := hP
                                  have hD : va_D A (WS_M_eliminate cI cL cZ h0 a_currency a_sort a_closing a_average a_held a_sum a_told a_left a_step a_outside a_item v_thrown v_companies v_accounts v_done v_items_46 v_held (vp_updL (vp_updL v_left_46 r160.toNatClampNeg s0_163) r191.toNatClampNeg s0_194) v_item_46) := hD
                                  refine lv_aload_n hx hb d_M_eliminate_215 rfl (lv_at hl 0 rfl) ?_
                                  refine va_get (D := (dC, dI)) (ci := 3) (v := .ref a_left) (C := R_M) (T := F_M) (N := 16) hx hb hts (kx_in in_M) hown hK hP 0 rfl rfl 11 (by decide) (hts _ (kx_w iw_486)) (fun _ h9 => h9) rfl d_M_eliminate_216 ?_
                                  refine lv_iload_n hx hb d_M_eliminate_219 rfl (lv_at hl 1 rfl) ?_
                                  refine lv_iload_n hx hb d_M_eliminate_220 rfl (lv_at hl 3 rfl) ?_
                                  refine lv_iload_n hx hb d_M_eliminate_221 rfl (lv_at hl 2 rfl) ?_
                                  refine kx_calli (ws' := fun u222 => (WS_M_eliminate cI cL cZ h0 a_currency a_sort a_closing a_average a_held a_sum a_told a_left a_step a_outside a_item v_thrown v_companies v_accounts v_done v_items_46 v_held (vp_updL (vp_updL v_left_46 r160.toNatClampNeg s0_163) r191.toNatClampNeg s0_194) v_item_46)) (va_runS (As := [.int l1_2, .int l3_46, .int l2_12]) (rest := [.ref a_left]) ⟨hx, hb, hml, hown, hts⟩ (c_M_cell l dC dI cI cL cZ  H.size l1_2 l3_46 l2_12 hw) ⟨(callB_of 3 hts (kx_good iw_573) rfl rfl rfl (hts _ (kx_w iw_4)) (hts _ (kx_w iw_571)) (by decide +kernel) ⟨Nat.le_of_ble_eq_true rfl, Nat.le_of_ble_eq_true rfl⟩), (hts _ (kx_w iw_572))⟩ (kx_preS hN hK hP hD [] (by decide) rfl) rfl rfl hl.1 rfl (lv_room (Nat.le_of_ble_eq_true rfl)) d_M_eliminate_222 ⟨Nat.le_of_ble_eq_true rfl, Nat.le_of_ble_eq_true rfl⟩) hP hD hS hA [] [0, 1, 2, 3] rfl rfl (by decide) (by decide) [0, 1, 2, 3] (by decide) (fun _ => rfl) (fun r222 u222 H locs hw hP hD hS => ?_)
                                  have hP : va_P (dC, dI) classes (WS_M_eliminate cI cL cZ h0 a_currency a_sort a_closing a_average a_held a_sum a_told a_left a_step a_outside a_item v_thrown v_companies v_accounts v_done v_items_46 v_held (vp_updL (vp_updL v_left_46 r160.toNatClampNeg s0_163) r191.toNatClampNeg s0_194) v_item_46) H := hP
                                  have hD : va_D A (WS_M_eliminate cI cL cZ h0 a_currency a_sort a_closing a_average a_held a_sum a_told a_left a_step a_outside a_item v_thrown v_companies v_accounts v_done v_items_46 v_held (vp_updL (vp_updL v_left_46 r160.toNatClampNeg s0_163) r191.toNatClampNeg s0_194) v_item_46) := hD
                                  obtain ⟨hi, hw⟩ := hw
                                  refine va_lald hx hb hK hP 2 1 rfl rfl hi d_M_eliminate_225 ?_
                                  refine lv_lconst (v := 0) hx hb d_M_eliminate_226 (by decide) ?_
                                  refine W.lcmp hx hb d_M_eliminate_227 ?_
                                  refine lv_if_eq (tgt := 238) hx hb d_M_eliminate_228 rfl (fun hc => ?_) (fun hc => ?_)
                                  ·
                                    have hc := (lc_eq _ _).mp hc
                                    have hw := hw.1 hc
                                    refine lv_iinc (v := (l3_46 + 1)) (lv' := [(3, .int (l3_46 + 1)), (0, .ref h0), (1, .int l1_2), (2, .int l2_12), (4, .long x65), (6, .long x78), (8, .int s0_80), (9, .long s0_115)]) hx hb d_M_eliminate_238 hl (k := 3) rfl rfl (by decide) rfl (fun ls hl => ?_)
                                    refine lv_goto (tgt := 46) hx hb d_M_eliminate_241 rfl ?_
                                    have hl := lv_sub hl [1, 2, 3, 0] rfl
                                    exact ih46 (l3_46 + 1) v_items_46 (vp_updL (vp_updL v_left_46 r160.toNatClampNeg s0_163) r191.toNatClampNeg s0_194) v_item_46 _ _ _ (Nat.lt_of_lt_of_le hw.2 (Nat.le_of_lt_succ hn46)) hw.1 hl hP hD hS
                                  ·
                                    have hc := mt (lc_eq _ _).mpr hc
                                    have hw := hw.2 hc
                                    refine lv_aload_n hx hb d_M_eliminate_231 rfl (lv_at hl 0 rfl) ?_
                                    refine lv_iload_n hx hb d_M_eliminate_232 rfl (lv_at hl 1 rfl) ?_
                                    refine lv_iload_n hx hb d_M_eliminate_233 rfl (lv_at hl 2 rfl) ?_
                                    refine lv_iload_n hx hb d_M_eliminate_234 rfl (lv_at hl 3 rfl) ?_
                                    refine kx_callv (ws' := fun u235 => (WS_M_eliminate cI cL cZ h0 a_currency a_sort a_closing a_average a_held a_sum a_told a_left a_step a_outside a_item v_thrown v_companies v_accounts v_done u235.1 v_held (vp_updL (vp_updL v_left_46 r160.toNatClampNeg s0_163) r191.toNatClampNeg s0_194) u235.2)) (va_runV (As := [.int l1_2, .int l2_12, .int l3_46]) (rest := []) ⟨hx, hb, hml, hown, hts⟩ (c_M_open l dC dI cI cL cZ h0 a_currency a_sort a_closing a_average a_held a_sum a_told a_left a_step a_outside a_item v_thrown v_companies v_accounts v_done v_items_46 (vp_updL (vp_updL v_left_46 r160.toNatClampNeg s0_163) r191.toNatClampNeg s0_194) v_item_46 H.size l1_2 l2_12 l3_46 hw) ⟨(callB_of 3 hts (kx_good iw_640) rfl rfl rfl (hts _ (kx_w iw_4)) (hts _ (kx_w iw_637)) (by decide +kernel) ⟨Nat.le_of_ble_eq_true rfl, Nat.le_of_ble_eq_true rfl⟩), (hts _ (kx_w iw_639)), (hts _ (kx_w sl_M_open))⟩ (kx_preV hN hK hP hD [0, 2, 3] (by decide) rfl 0 rfl rfl) rfl rfl hl.1 rfl (lv_room (Nat.le_of_ble_eq_true rfl)) d_M_eliminate_235 ⟨Nat.le_of_ble_eq_true rfl, Nat.le_of_ble_eq_true rfl⟩) hP hD hS hA [0, 2, 3] [1] rfl rfl (by decide) (by decide) [1, 0, 2, 3] (by decide) (fun _ => rfl) (fun u235 H locs hw hP hD hS => ?_)
                                    have hP : va_P (dC, dI) classes (WS_M_eliminate cI cL cZ h0 a_currency a_sort a_closing a_average a_held a_sum a_told a_left a_step a_outside a_item v_thrown v_companies v_accounts v_done u235.1 v_held (vp_updL (vp_updL v_left_46 r160.toNatClampNeg s0_163) r191.toNatClampNeg s0_194) u235.2) H := hP
                                    have hD : va_D A (WS_M_eliminate cI cL cZ h0 a_currency a_sort a_closing a_average a_held a_sum a_told a_left a_step a_outside a_item v_thrown v_companies v_accounts v_done u235.1 v_held (vp_updL (vp_updL v_left_46 r160.toNatClampNeg s0_163) r191.toNatClampNeg s0_194) u235.2) := hD
                                    refine lv_iinc (v := (l3_46 + 1)) (lv' := [(3, .int (l3_46 + 1)), (0, .ref h0), (1, .int l1_2), (2, .int l2_12), (4, .long x65), (6, .long x78), (8, .int s0_80), (9, .long s0_115)]) hx hb d_M_eliminate_238 hl (k := 3) rfl rfl (by decide) rfl (fun ls hl => ?_)
                                    refine lv_goto (tgt := 46) hx hb d_M_eliminate_241 rfl ?_
                                    have hl := lv_sub hl [1, 2, 3, 0] rfl
                                    exact ih46 (l3_46 + 1) u235.1 (vp_updL (vp_updL v_left_46 r160.toNatClampNeg s0_163) r191.toNatClampNeg s0_194) u235.2 _ _ _ (Nat.lt_of_lt_of_le hw.2 (Nat.le_of_lt_succ hn46)) hw.1 hl hP hD hS
                                refine lv_lload hx hb d_M_eliminate_194 (lv_at hl 5 rfl) ?_
                                refine lv_lconst (v := 0) hx hb d_M_eliminate_196 (by decide) ?_
                                refine W.lcmp hx hb d_M_eliminate_197 ?_
                                refine lv_if_ge (tgt := 209) hx hb d_M_eliminate_198 rfl (fun hc => ?_) (fun hc => ?_)
                                ·
                                  have hc := (lc_ge _ _).mp hc
                                  have hw := hw.1 hc
                                  refine lv_lload hx hb d_M_eliminate_209 (lv_at hl 5 rfl) ?_
                                  refine lv_lload hx hb d_M_eliminate_211 (lv_at hl 7 rfl) ?_
                                  refine lv_lsub hx hb d_M_eliminate_213 ?_
                                  have hl := lv_sub hl [0, 1, 2, 3, 4, 5, 6, 7] rfl
                                  exact jn194 (x78 - s0_115) _ _ _ hw hl hP hD hS
                                ·
                                  have hc := mt (lc_ge _ _).mpr hc
                                  have hw := hw.2 hc
                                  refine lv_lload hx hb d_M_eliminate_201 (lv_at hl 5 rfl) ?_
                                  refine lv_lload hx hb d_M_eliminate_203 (lv_at hl 7 rfl) ?_
                                  refine lv_ladd hx hb d_M_eliminate_205 ?_
                                  refine lv_goto (tgt := 214) hx hb d_M_eliminate_206 rfl ?_
                                  have hl := lv_sub hl [0, 1, 2, 3, 4, 5, 6, 7] rfl
                                  exact jn194 (x78 + s0_115) _ _ _ hw hl hP hD hS
                              refine lv_lload hx hb d_M_eliminate_163 (lv_at hl 5 rfl) ?_
                              refine lv_lconst (v := 0) hx hb d_M_eliminate_165 (by decide) ?_
                              refine W.lcmp hx hb d_M_eliminate_166 ?_
                              refine lv_if_ge (tgt := 178) hx hb d_M_eliminate_167 rfl (fun hc => ?_) (fun hc => ?_)
                              ·
                                have hc := (lc_ge _ _).mp hc
                                have hw := hw.1 hc
                                refine lv_lload hx hb d_M_eliminate_178 (lv_at hl 5 rfl) ?_
                                refine lv_lload hx hb d_M_eliminate_180 (lv_at hl 0 rfl) ?_
                                refine lv_lsub hx hb d_M_eliminate_182 ?_
                                have hl := lv_sub hl [1, 2, 3, 4, 5, 6, 7, 0] rfl
                                exact jn163 (x65 - s0_115) _ _ _ hw hl hP hD hS
                              ·
                                have hc := mt (lc_ge _ _).mpr hc
                                have hw := hw.2 hc
                                refine lv_lload hx hb d_M_eliminate_170 (lv_at hl 5 rfl) ?_
                                refine lv_lload hx hb d_M_eliminate_172 (lv_at hl 0 rfl) ?_
                                refine lv_ladd hx hb d_M_eliminate_174 ?_
                                refine lv_goto (tgt := 183) hx hb d_M_eliminate_175 rfl ?_
                                have hl := lv_sub hl [1, 2, 3, 4, 5, 6, 7, 0] rfl
                                exact jn163 (x65 + s0_115) _ _ _ hw hl hP hD hS
                            refine lv_iload hx hb d_M_eliminate_115 (lv_at hl 0 rfl) ?_
                            refine lv_if_eq (tgt := 150) hx hb d_M_eliminate_117 rfl (fun hc => ?_) (fun hc => ?_)
                            ·
                              have hw := hw.1 hc
                              refine lv_lconst (v := 0) hx hb d_M_eliminate_150 (by decide) ?_
                              have hl := lv_sub hl [1, 2, 3, 4, 5, 6, 0] rfl
                              exact jn115 0 _ _ _ hw hl hP hD hS
                            ·
                              have hw := hw.2 hc
                              refine lv_lload hx hb d_M_eliminate_120 (lv_at hl 5 rfl) ?_
                              refine kx_calll (ws' := fun u122 => (WS_M_eliminate cI cL cZ h0 a_currency a_sort a_closing a_average a_held a_sum a_told a_left a_step a_outside a_item v_thrown v_companies v_accounts v_done v_items_46 v_held v_left_46 v_item_46)) (va_runS (As := [.long x65]) (rest := []) ⟨hx, hb, hml, hown, hts⟩ (c_M_size l dC dI cI cL cZ  H.size x65 hw) ⟨(callB_of 1 hts (kx_good iw_576) rfl rfl rfl (hts _ (kx_w iw_4)) (hts _ (kx_w iw_574)) (by decide +kernel) ⟨Nat.le_of_ble_eq_true rfl, Nat.le_of_ble_eq_true rfl⟩), (hts _ (kx_w iw_575))⟩ (kx_preS hN hK hP hD [] (by decide) rfl) rfl rfl hl.1 rfl (lv_room (Nat.le_of_ble_eq_true rfl)) d_M_eliminate_122 ⟨Nat.le_of_ble_eq_true rfl, Nat.le_of_ble_eq_true rfl⟩) hP hD hS hA [] [0, 1, 2, 3] rfl rfl (by decide) (by decide) [0, 1, 2, 3] (by decide) (fun _ => rfl) (fun r122 u122 H locs hw hP hD hS => ?_)
                              have hP : va_P (dC, dI) classes (WS_M_eliminate cI cL cZ h0 a_currency a_sort a_closing a_average a_held a_sum a_told a_left a_step a_outside a_item v_thrown v_companies v_accounts v_done v_items_46 v_held v_left_46 v_item_46) H := hP
                              have hD : va_D A (WS_M_eliminate cI cL cZ h0 a_currency a_sort a_closing a_average a_held a_sum a_told a_left a_step a_outside a_item v_thrown v_companies v_accounts v_done v_items_46 v_held v_left_46 v_item_46) := hD
                              refine lv_lload hx hb d_M_eliminate_125 (lv_at hl 6 rfl) ?_
                              refine kx_calll (ws' := fun u127 => (WS_M_eliminate cI cL cZ h0 a_currency a_sort a_closing a_average a_held a_sum a_told a_left a_step a_outside a_item v_thrown v_companies v_accounts v_done v_items_46 v_held v_left_46 v_item_46)) (va_runS (As := [.long x78]) (rest := [.long r122]) ⟨hx, hb, hml, hown, hts⟩ (c_M_size l dC dI cI cL cZ  H.size x78 hw) ⟨(callB_of 1 hts (kx_good iw_576) rfl rfl rfl (hts _ (kx_w iw_4)) (hts _ (kx_w iw_574)) (by decide +kernel) ⟨Nat.le_of_ble_eq_true rfl, Nat.le_of_ble_eq_true rfl⟩), (hts _ (kx_w iw_575))⟩ (kx_preS hN hK hP hD [] (by decide) rfl) rfl rfl hl.1 rfl (lv_room (Nat.le_of_ble_eq_true rfl)) d_M_eliminate_127 ⟨Nat.le_of_ble_eq_true rfl, Nat.le_of_ble_eq_true rfl⟩) hP hD hS hA [] [0, 1, 2, 3] rfl rfl (by decide) (by decide) [0, 1, 2, 3] (by decide) (fun _ => rfl) (fun r127 u127 H locs hw hP hD hS => ?_)
                              have hP : va_P (dC, dI) classes (WS_M_eliminate cI cL cZ h0 a_currency a_sort a_closing a_average a_held a_sum a_told a_left a_step a_outside a_item v_thrown v_companies v_accounts v_done v_items_46 v_held v_left_46 v_item_46) H := hP
                              have hD : va_D A (WS_M_eliminate cI cL cZ h0 a_currency a_sort a_closing a_average a_held a_sum a_told a_left a_step a_outside a_item v_thrown v_companies v_accounts v_done v_items_46 v_held v_left_46 v_item_46) := hD
                              refine W.lcmp hx hb d_M_eliminate_130 ?_
                              refine lv_if_ge (tgt := 142) hx hb d_M_eliminate_131 rfl (fun hc => ?_) (fun hc => ?_)
                              ·
                                have hc := (lc_ge _ _).mp hc
                                have hw := hw.1 hc
                                refine lv_lload hx hb d_M_eliminate_142 (lv_at hl 6 rfl) ?_
                                refine kx_calll (ws' := fun u144 => (WS_M_eliminate cI cL cZ h0 a_currency a_sort a_closing a_average a_held a_sum a_told a_left a_step a_outside a_item v_thrown v_companies v_accounts v_done v_items_46 v_held v_left_46 v_item_46)) (va_runS (As := [.long x78]) (rest := []) ⟨hx, hb, hml, hown, hts⟩ (c_M_size l dC dI cI cL cZ  H.size x78 hw) ⟨(callB_of 1 hts (kx_good iw_576) rfl rfl rfl (hts _ (kx_w iw_4)) (hts _ (kx_w iw_574)) (by decide +kernel) ⟨Nat.le_of_ble_eq_true rfl, Nat.le_of_ble_eq_true rfl⟩), (hts _ (kx_w iw_575))⟩ (kx_preS hN hK hP hD [] (by decide) rfl) rfl rfl hl.1 rfl (lv_room (Nat.le_of_ble_eq_true rfl)) d_M_eliminate_144 ⟨Nat.le_of_ble_eq_true rfl, Nat.le_of_ble_eq_true rfl⟩) hP hD hS hA [] [0, 1, 2, 3] rfl rfl (by decide) (by decide) [0, 1, 2, 3] (by decide) (fun _ => rfl) (fun r144 u144 H locs hw hP hD hS => ?_)
                                have hP : va_P (dC, dI) classes (WS_M_eliminate cI cL cZ h0 a_currency a_sort a_closing a_average a_held a_sum a_told a_left a_step a_outside a_item v_thrown v_companies v_accounts v_done v_items_46 v_held v_left_46 v_item_46) H := hP
                                have hD : va_D A (WS_M_eliminate cI cL cZ h0 a_currency a_sort a_closing a_average a_held a_sum a_told a_left a_step a_outside a_item v_thrown v_companies v_accounts v_done v_items_46 v_held v_left_46 v_item_46) := hD
                                refine lv_goto (tgt := 151) hx hb d_M_eliminate_147 rfl ?_
                                have hl := lv_sub hl [1, 2, 3, 4, 5, 6, 0] rfl
                                exact jn115 r144 _ _ _ hw hl hP hD hS
                              ·
                                have hc := mt (lc_ge _ _).mpr hc
                                have hw := hw.2 hc
                                refine lv_lload hx hb d_M_eliminate_134 (lv_at hl 5 rfl) ?_
                                refine kx_calll (ws' := fun u136 => (WS_M_eliminate cI cL cZ h0 a_currency a_sort a_closing a_average a_held a_sum a_told a_left a_step a_outside a_item v_thrown v_companies v_accounts v_done v_items_46 v_held v_left_46 v_item_46)) (va_runS (As := [.long x65]) (rest := []) ⟨hx, hb, hml, hown, hts⟩ (c_M_size l dC dI cI cL cZ  H.size x65 hw) ⟨(callB_of 1 hts (kx_good iw_576) rfl rfl rfl (hts _ (kx_w iw_4)) (hts _ (kx_w iw_574)) (by decide +kernel) ⟨Nat.le_of_ble_eq_true rfl, Nat.le_of_ble_eq_true rfl⟩), (hts _ (kx_w iw_575))⟩ (kx_preS hN hK hP hD [] (by decide) rfl) rfl rfl hl.1 rfl (lv_room (Nat.le_of_ble_eq_true rfl)) d_M_eliminate_136 ⟨Nat.le_of_ble_eq_true rfl, Nat.le_of_ble_eq_true rfl⟩) hP hD hS hA [] [0, 1, 2, 3] rfl rfl (by decide) (by decide) [0, 1, 2, 3] (by decide) (fun _ => rfl) (fun r136 u136 H locs hw hP hD hS => ?_)
                                have hP : va_P (dC, dI) classes (WS_M_eliminate cI cL cZ h0 a_currency a_sort a_closing a_average a_held a_sum a_told a_left a_step a_outside a_item v_thrown v_companies v_accounts v_done v_items_46 v_held v_left_46 v_item_46) H := hP
                                have hD : va_D A (WS_M_eliminate cI cL cZ h0 a_currency a_sort a_closing a_average a_held a_sum a_told a_left a_step a_outside a_item v_thrown v_companies v_accounts v_done v_items_46 v_held v_left_46 v_item_46) := hD
                                refine lv_goto (tgt := 151) hx hb d_M_eliminate_139 rfl ?_
                                have hl := lv_sub hl [1, 2, 3, 4, 5, 6, 0] rfl
                                exact jn115 r136 _ _ _ hw hl hP hD hS
                          refine lv_lload hx hb d_M_eliminate_80 (lv_at hl 1 rfl) ?_
                          refine lv_lconst (v := 0) hx hb d_M_eliminate_82 (by decide) ?_
                          refine W.lcmp hx hb d_M_eliminate_83 ?_
                          refine lv_if_le (tgt := 94) hx hb d_M_eliminate_84 rfl (fun hc => ?_) (fun hc => ?_)
                          ·
                            have hc := (lc_le _ _).mp hc
                            have hw := hw.1 hc
                            refine lv_lload hx hb d_M_eliminate_94 (lv_at hl 1 rfl) ?_
                            refine lv_lconst (v := 0) hx hb d_M_eliminate_96 (by decide) ?_
                            refine W.lcmp hx hb d_M_eliminate_97 ?_
                            refine lv_if_ge (tgt := 112) hx hb d_M_eliminate_98 rfl (fun hc => ?_) (fun hc => ?_)
                            ·
                              have hc := (lc_ge _ _).mp hc
                              have hw := hw.1 hc
                              refine lv_iconst (v := 0) hx hb d_M_eliminate_112 (by decide) ?_
                              have hl := lv_sub hl [2, 3, 4, 5, 1, 0] rfl
                              exact jn80 0 _ _ _ hw hl hP hD hS
                            ·
                              have hc := mt (lc_ge _ _).mpr hc
                              have hw := hw.2 hc
                              refine lv_lload hx hb d_M_eliminate_101 (lv_at hl 0 rfl) ?_
                              refine lv_lconst (v := 0) hx hb d_M_eliminate_103 (by decide) ?_
                              refine W.lcmp hx hb d_M_eliminate_104 ?_
                              refine lv_if_le (tgt := 112) hx hb d_M_eliminate_105 rfl (fun hc => ?_) (fun hc => ?_)
                              ·
                                have hc := (lc_le _ _).mp hc
                                have hw := hw.1 hc
                                refine lv_iconst (v := 0) hx hb d_M_eliminate_112 (by decide) ?_
                                have hl := lv_sub hl [2, 3, 4, 5, 1, 0] rfl
                                exact jn80 0 _ _ _ hw hl hP hD hS
                              ·
                                have hc := mt (lc_le _ _).mpr hc
                                have hw := hw.2 hc
                                refine lv_iconst (v := 1) hx hb d_M_eliminate_108 (by decide) ?_
                                refine lv_goto (tgt := 113) hx hb d_M_eliminate_109 rfl ?_
                                have hl := lv_sub hl [2, 3, 4, 5, 1, 0] rfl
                                exact jn80 1 _ _ _ hw hl hP hD hS
                          ·
                            have hc := mt (lc_le _ _).mpr hc
                            have hw := hw.2 hc
                            refine lv_lload hx hb d_M_eliminate_87 (lv_at hl 0 rfl) ?_
                            refine lv_lconst (v := 0) hx hb d_M_eliminate_89 (by decide) ?_
                            refine W.lcmp hx hb d_M_eliminate_90 ?_
                            refine lv_if_lt (tgt := 108) hx hb d_M_eliminate_91 rfl (fun hc => ?_) (fun hc => ?_)
                            ·
                              have hc := (lc_lt _ _).mp hc
                              have hw := hw.1 hc
                              refine lv_iconst (v := 1) hx hb d_M_eliminate_108 (by decide) ?_
                              refine lv_goto (tgt := 113) hx hb d_M_eliminate_109 rfl ?_
                              have hl := lv_sub hl [2, 3, 4, 5, 1, 0] rfl
                              exact jn80 1 _ _ _ hw hl hP hD hS
                            ·
                              have hc := mt (lc_lt _ _).mpr hc
                              have hw := hw.2 hc
                              refine lv_lload hx hb d_M_eliminate_94 (lv_at hl 1 rfl) ?_
                              refine lv_lconst (v := 0) hx hb d_M_eliminate_96 (by decide) ?_
                              refine W.lcmp hx hb d_M_eliminate_97 ?_
                              refine lv_if_ge (tgt := 112) hx hb d_M_eliminate_98 rfl (fun hc => ?_) (fun hc => ?_)
                              ·
                                have hc := (lc_ge _ _).mp hc
                                have hw := hw.1 hc
                                refine lv_iconst (v := 0) hx hb d_M_eliminate_112 (by decide) ?_
                                have hl := lv_sub hl [2, 3, 4, 5, 1, 0] rfl
                                exact jn80 0 _ _ _ hw hl hP hD hS
                              ·
                                have hc := mt (lc_ge _ _).mpr hc
                                have hw := hw.2 hc
                                refine lv_lload hx hb d_M_eliminate_101 (lv_at hl 0 rfl) ?_
                                refine lv_lconst (v := 0) hx hb d_M_eliminate_103 (by decide) ?_
                                refine W.lcmp hx hb d_M_eliminate_104 ?_
                                refine lv_if_le (tgt := 112) hx hb d_M_eliminate_105 rfl (fun hc => ?_) (fun hc => ?_)
                                ·
                                  have hc := (lc_le _ _).mp hc
                                  have hw := hw.1 hc
                                  refine lv_iconst (v := 0) hx hb d_M_eliminate_112 (by decide) ?_
                                  have hl := lv_sub hl [2, 3, 4, 5, 1, 0] rfl
                                  exact jn80 0 _ _ _ hw hl hP hD hS
                                ·
                                  have hc := mt (lc_le _ _).mpr hc
                                  have hw := hw.2 hc
                                  refine lv_iconst (v := 1) hx hb d_M_eliminate_108 (by decide) ?_
                                  refine lv_goto (tgt := 113) hx hb d_M_eliminate_109 rfl ?_
                                  have hl := lv_sub hl [2, 3, 4, 5, 1, 0] rfl
                                  exact jn80 1 _ _ _ hw hl hP hD hS
                    exact L46 _ 0 v_items_12 v_left_12 v_item_12 _ _ _ (Nat.lt_succ_self _) hi46 hl hP hD hS
                  ·
                    have hw := hw.2 hc
                    refine lv_goto (tgt := 244) hx hb d_M_eliminate_41 rfl ?_
                    refine lv_iinc (v := (l2_12 + 1)) (lv' := [(2, .int (l2_12 + 1)), (0, .ref h0), (1, .int l1_2)]) hx hb d_M_eliminate_244 hl (k := 2) rfl rfl (by decide) rfl (fun ls hl => ?_)
                    refine lv_goto (tgt := 12) hx hb d_M_eliminate_247 rfl ?_
                    have hl := lv_sub hl [1, 2, 0] rfl
                    exact ih12 (l2_12 + 1) v_items_12 v_left_12 v_item_12 _ _ _ (Nat.lt_of_lt_of_le hw.2 (Nat.le_of_lt_succ hn12)) hw.1 hl hP hD hS
        exact L12 _ 0 v_items_2 v_left_2 v_item_2 _ _ _ (Nat.lt_succ_self _) hi12 hl hP hD hS
  exact L2 _ 0 v_items v_left v_item _ _ _ (Nat.lt_succ_self _) hi2 hl hP hD hS
/-! ConsolidationDeskModel.share(II)V -/
abbrev y_M_share : MethodName := ⟨"ConsolidationDeskModel", "share", "(II)V"⟩
theorem d_M_share_0 : decode prog_5_method_30_code 0 = .ok (.lconst 0, 1) := by decide +kernel
theorem d_M_share_1 : decode prog_5_method_30_code 1 = .ok (.lstore_n 3, 1) := by decide +kernel
theorem d_M_share_2 : decode prog_5_method_30_code 2 = .ok (.iconst 0, 1) := by decide +kernel
theorem d_M_share_3 : decode prog_5_method_30_code 3 = .ok (.istore 5, 2) := by decide +kernel
theorem d_M_share_5 : decode prog_5_method_30_code 5 = .ok (.iload 5, 2) := by decide +kernel
theorem d_M_share_7 : decode prog_5_method_30_code 7 = .ok (.aload_n 0, 1) := by decide +kernel
theorem d_M_share_8 : decode prog_5_method_30_code 8 = .ok (.getfield 52, 3) := by decide +kernel
theorem d_M_share_11 : decode prog_5_method_30_code 11 = .ok (.if_icmp .ge 39, 3) := by decide +kernel
theorem d_M_share_14 : decode prog_5_method_30_code 14 = .ok (.lload_n 3, 1) := by decide +kernel
theorem d_M_share_15 : decode prog_5_method_30_code 15 = .ok (.aload_n 0, 1) := by decide +kernel
theorem d_M_share_16 : decode prog_5_method_30_code 16 = .ok (.getfield 13, 3) := by decide +kernel
theorem d_M_share_19 : decode prog_5_method_30_code 19 = .ok (.iload 5, 2) := by decide +kernel
theorem d_M_share_21 : decode prog_5_method_30_code 21 = .ok (.iaload, 1) := by decide +kernel
theorem d_M_share_22 : decode prog_5_method_30_code 22 = .ok (.iconst 1, 1) := by decide +kernel
theorem d_M_share_23 : decode prog_5_method_30_code 23 = .ok (.if_icmp .ne 18, 3) := by decide +kernel
theorem d_M_share_26 : decode prog_5_method_30_code 26 = .ok (.aload_n 0, 1) := by decide +kernel
theorem d_M_share_27 : decode prog_5_method_30_code 27 = .ok (.getfield 35, 3) := by decide +kernel
theorem d_M_share_30 : decode prog_5_method_30_code 30 = .ok (.bipush 12, 2) := by decide +kernel
theorem d_M_share_32 : decode prog_5_method_30_code 32 = .ok (.iload_n 1, 1) := by decide +kernel
theorem d_M_share_33 : decode prog_5_method_30_code 33 = .ok (.imul, 1) := by decide +kernel
theorem d_M_share_34 : decode prog_5_method_30_code 34 = .ok (.iload 5, 2) := by decide +kernel
theorem d_M_share_36 : decode prog_5_method_30_code 36 = .ok (.iadd, 1) := by decide +kernel
theorem d_M_share_37 : decode prog_5_method_30_code 37 = .ok (.laload, 1) := by decide +kernel
theorem d_M_share_38 : decode prog_5_method_30_code 38 = .ok (.goto 4, 3) := by decide +kernel
theorem d_M_share_41 : decode prog_5_method_30_code 41 = .ok (.lconst 0, 1) := by decide +kernel
theorem d_M_share_42 : decode prog_5_method_30_code 42 = .ok (.ladd, 1) := by decide +kernel
theorem d_M_share_43 : decode prog_5_method_30_code 43 = .ok (.lstore_n 3, 1) := by decide +kernel
theorem d_M_share_44 : decode prog_5_method_30_code 44 = .ok (.iinc 5 1, 3) := by decide +kernel
theorem d_M_share_47 : decode prog_5_method_30_code 47 = .ok (.goto (-42), 3) := by decide +kernel
theorem d_M_share_50 : decode prog_5_method_30_code 50 = .ok (.lload_n 3, 1) := by decide +kernel
theorem d_M_share_51 : decode prog_5_method_30_code 51 = .ok (.ldc2_w 96, 3) := by decide +kernel
theorem d_M_share_54 : decode prog_5_method_30_code 54 = .ok (.aload_n 0, 1) := by decide +kernel
theorem d_M_share_55 : decode prog_5_method_30_code 55 = .ok (.iload_n 1, 1) := by decide +kernel
theorem d_M_share_56 : decode prog_5_method_30_code 56 = .ok (.invokevirtual 148, 3) := by decide +kernel
theorem d_M_share_59 : decode prog_5_method_30_code 59 = .ok (.lsub, 1) := by decide +kernel
theorem d_M_share_60 : decode prog_5_method_30_code 60 = .ok (.invokestatic 152, 3) := by decide +kernel
theorem d_M_share_63 : decode prog_5_method_30_code 63 = .ok (.lstore 5, 2) := by decide +kernel
theorem d_M_share_65 : decode prog_5_method_30_code 65 = .ok (.aload_n 0, 1) := by decide +kernel
theorem d_M_share_66 : decode prog_5_method_30_code 66 = .ok (.getfield 38, 3) := by decide +kernel
theorem d_M_share_69 : decode prog_5_method_30_code 69 = .ok (.iload_n 1, 1) := by decide +kernel
theorem d_M_share_70 : decode prog_5_method_30_code 70 = .ok (.lload 5, 2) := by decide +kernel
theorem d_M_share_72 : decode prog_5_method_30_code 72 = .ok (.lneg, 1) := by decide +kernel
theorem d_M_share_73 : decode prog_5_method_30_code 73 = .ok (.lastore, 1) := by decide +kernel
theorem d_M_share_74 : decode prog_5_method_30_code 74 = .ok (.aload_n 0, 1) := by decide +kernel
theorem d_M_share_75 : decode prog_5_method_30_code 75 = .ok (.getfield 32, 3) := by decide +kernel
theorem d_M_share_78 : decode prog_5_method_30_code 78 = .ok (.iload_n 1, 1) := by decide +kernel
theorem d_M_share_79 : decode prog_5_method_30_code 79 = .ok (.iload_n 2, 1) := by decide +kernel
theorem d_M_share_80 : decode prog_5_method_30_code 80 = .ok (.iconst (-1), 1) := by decide +kernel
theorem d_M_share_81 : decode prog_5_method_30_code 81 = .ok (.invokestatic 79, 3) := by decide +kernel
theorem d_M_share_84 : decode prog_5_method_30_code 84 = .ok (.dup2, 1) := by decide +kernel
theorem d_M_share_85 : decode prog_5_method_30_code 85 = .ok (.laload, 1) := by decide +kernel
theorem d_M_share_86 : decode prog_5_method_30_code 86 = .ok (.lload 5, 2) := by decide +kernel
theorem d_M_share_88 : decode prog_5_method_30_code 88 = .ok (.ladd, 1) := by decide +kernel
theorem d_M_share_89 : decode prog_5_method_30_code 89 = .ok (.lastore, 1) := by decide +kernel
theorem d_M_share_90 : decode prog_5_method_30_code 90 = .ok (.return_, 1) := by decide +kernel
abbrev WS_M_share (cI cL cZ : ClassId)  (h0 a_currency a_sort a_closing a_average a_held a_sum a_told a_left a_step a_outside a_item : Nat) (v_thrown : Int32) (v_companies : Int32) (v_accounts : Int32) (v_done : Int32) (v_items : Int32) (v_sort : (Nat → Int32)) (v_held : (Nat → Int32)) (v_left : (Nat → Int64)) (v_step : (Nat → Int64)) (v_outside : (Nat → Int64)) : va_W := [(h0, .inr (3, [.int v_thrown, .int v_companies, .int v_accounts, .ref a_currency, .ref a_sort, .ref a_closing, .ref a_average, .ref a_held, .ref a_sum, .ref a_told, .int v_done, .ref a_left, .ref a_step, .ref a_outside, .int v_items, .ref a_item])), (a_sort, .inl (cI, 12, .inl v_sort)), (a_held, .inl (cI, 144, .inl v_held)), (a_left, .inl (cL, 1872, .inr (.inl v_left))), (a_step, .inl (cL, 432, .inr (.inl v_step))), (a_outside, .inl (cL, 12, .inr (.inl v_outside)))]
def wp_M_share  (p0 : Int32) (p1 : Int32) (v_thrown : Int32) (v_companies : Int32) (v_accounts : Int32) (v_sort : (Nat → Int32)) (v_held : (Nat → Int32)) (v_left : (Nat → Int64)) (v_step : (Nat → Int64)) (v_outside : (Nat → Int64)) (post : (Int32 × (Nat → Int64) × (Nat → Int64)) → Prop) : Prop := (∃ (I5 : Int64 → Int32 → Prop) (μ5 : Int64 → Int32 → Nat), I5 0 0 ∧ ∀ (l3_5 : Int64) (l5_5 : Int32), I5 l3_5 l5_5 → ((v_accounts ≤ l5_5 → (wp_M_effective p0 v_thrown v_companies v_held (fun (r56 : Int64) (u56 : Int32) => (wp_M_part l3_5 (10000000000000000 - r56) (fun (r60 : Int64) (u60 : Unit) => (vp_in p0 12 ∧ (wp_M_cell p0 p1 (-1) (fun (r81 : Int32) (u81 : Unit) => (vp_in r81 1872 ∧ (vp_in r81 1872 ∧ post (u56, (vp_updL v_left r81.toNatClampNeg ((v_left r81.toNatClampNeg) + r60)), (vp_updL v_outside p0.toNatClampNeg (-r60))))))))))))) ∧ (¬ v_accounts ≤ l5_5 → (vp_in l5_5 12 ∧ ((¬ (v_sort l5_5.toNatClampNeg) = 1 → (∀ x43 : Int64, x43 = (l3_5 + 0) → I5 x43 (l5_5 + 1) ∧ μ5 x43 (l5_5 + 1) < μ5 l3_5 l5_5)) ∧ ((v_sort l5_5.toNatClampNeg) = 1 → (vp_in ((12 * p0) + l5_5) 432 ∧ (∀ x43 : Int64, x43 = (l3_5 + (v_step (Int32.toNatClampNeg ((12 * p0) + l5_5)))) → I5 x43 (l5_5 + 1) ∧ μ5 x43 (l5_5 + 1) < μ5 l3_5 l5_5))))))))
abbrev ws_M_share : List Cond := .code y_M_share prog_5_method_30_code 7 none :: kxW
abbrev rm_M_share : Room := { frames := 2, cells := 0, slots := 0, locals := 70 }
abbrev QC_M_share (dC : Nat → ClassId) (dI : Nat → Nat → Nat) (cI cL cZ : ClassId) (A : Nat → Prop)  (h0 a_currency a_sort a_closing a_average a_held a_sum a_told a_left a_step a_outside a_item : Nat) (v_thrown : Int32) (v_companies : Int32) (v_accounts : Int32) (v_done : Int32) (v_items : Int32) (v_sort : (Nat → Int32)) (v_held : (Nat → Int32)) (v_left : (Nat → Int64)) (v_step : (Nat → Int64)) (v_outside : (Nat → Int64)) (post : (Int32 × (Nat → Int64) × (Nat → Int64)) → Prop) : Array Value → State → Outcome → State → Prop := va_Qv post (fun (u : Int32 × (Nat → Int64) × (Nat → Int64)) t => kx_B (dC, dI) classes A (WS_M_share cI cL cZ h0 a_currency a_sort a_closing a_average a_held a_sum a_told a_left a_step a_outside a_item u.1 v_companies v_accounts v_done v_items v_sort v_held u.2.1 v_step u.2.2) t) A
set_option maxHeartbeats 4000000 in
set_option maxRecDepth 100000 in
theorem c_M_share (l : Launch) (dC : Nat → ClassId) (dI : Nat → Nat → Nat) (cI cL cZ : ClassId)  (h0 a_currency a_sort a_closing a_average a_held a_sum a_told a_left a_step a_outside a_item : Nat) (v_thrown : Int32) (v_companies : Int32) (v_accounts : Int32) (v_done : Int32) (v_items : Int32) (v_sort : (Nat → Int32)) (v_held : (Nat → Int32)) (v_left : (Nat → Int64)) (v_step : (Nat → Int64)) (v_outside : (Nat → Int64)) (sz : Nat) (p0 : Int32) (p1 : Int32) {post : (Int32 × (Nat → Int64) × (Nat → Int64)) → Prop} (hw : wp_M_share p0 p1 v_thrown v_companies v_accounts v_sort v_held v_left v_step v_outside post) : Met l y_M_share ws_M_share rm_M_share (kx_Pc (dC, dI) classes (kx_T cI cL cZ) (WS_M_share cI cL cZ h0 a_currency a_sort a_closing a_average a_held a_sum a_told a_left a_step a_outside a_item v_thrown v_companies v_accounts v_done v_items v_sort v_held v_left v_step v_outside) sz [.ref h0, .int p0, .int p1]) (QC_M_share dC dI cI cL cZ (va_A (WS_M_share cI cL cZ h0 a_currency a_sort a_closing a_average a_held a_sum a_told a_left a_step a_outside a_item v_thrown v_companies v_accounts v_done v_items v_sort v_held v_left v_step v_outside) sz) h0 a_currency a_sort a_closing a_average a_held a_sum a_told a_left a_step a_outside a_item v_thrown v_companies v_accounts v_done v_items v_sort v_held v_left v_step v_outside post) 0 0 (va_A (WS_M_share cI cL cZ h0 a_currency a_sort a_closing a_average a_held a_sum a_told a_left a_step a_outside a_item v_thrown v_companies v_accounts v_done v_items v_sort v_held v_left v_step v_outside) sz) := by
  refine Met.ofW (cc := prog_5_method_30_code) (maxL := 7) (ret := none) (by decide) rfl ?_
  intro p e s m args below meth c s₁ B hml hv
  obtain ⟨rfl, hsz, hP, hK, hD0, hN⟩ := hv
  have hx := B.exec
  have hb := B.bytes
  have hr := B.returns
  have hts := atoms_spec (ws := ws_M_share) B.pre
  have hown : s.vm.findClass R_M = some m.cls := findClass_of_methodNamed B.named
  have hlocks := B.notSynchronized
  subst hsz
  have hD := hD0.self (sz := s.heap.size)
  generalize hAe : va_A (WS_M_share cI cL cZ h0 a_currency a_sort a_closing a_average a_held a_sum a_told a_left a_step a_outside a_item v_thrown v_companies v_accounts v_done v_items v_sort v_held v_left v_step v_outside) s.heap.size = A at hD ⊢
  have hA : ∀ q : Nat, s.heap.size ≤ q → A q := fun q h => by rw [← hAe]; exact Or.inr h
  have hS : va_S A s.heap s.heap [] := va_S.rf
  have hP : va_P (dC, dI) classes (WS_M_share cI cL cZ h0 a_currency a_sort a_closing a_average a_held a_sum a_told a_left a_step a_outside a_item v_thrown v_companies v_accounts v_done v_items v_sort v_held v_left v_step v_outside) s.heap := hP
  have hl := lv_entry ([.ref h0, .int p0, .int p1]) (n := 7) (Nat.le_of_ble_eq_true rfl)
  rw [lg_entry_eq]
  generalize (lg_sl ([.ref h0, .int p0, .int p1]) ++ List.replicate (7 - (lg_sl ([.ref h0, .int p0, .int p1])).length) Slot.unset).toArray = ls at hl ⊢
  have hl : lv_has ls 7 [(0, .ref h0), (1, .int p0), (2, .int p1)] := hl
  unfold wp_M_share at hw
  refine (show ∀ (H : Heap) (locs : List Loc), va_P (dC, dI) classes (WS_M_share cI cL cZ h0 a_currency a_sort a_closing a_average a_held a_sum a_told a_left a_step a_outside a_item v_thrown v_companies v_accounts v_done v_items v_sort v_held v_left v_step v_outside) H → va_S A s.heap H locs → W p l e (headSpec ws_M_share rm_M_share).room s m ([.ref h0, .int p0, .int p1] : List Value).toArray below meth c H locs 0 0 (MQ below (QC_M_share dC dI cI cL cZ A h0 a_currency a_sort a_closing a_average a_held a_sum a_told a_left a_step a_outside a_item v_thrown v_companies v_accounts v_done v_items v_sort v_held v_left v_step v_outside post) ([.ref h0, .int p0, .int p1] : List Value).toArray s 0 0 A) (F0 m 0 ls []) from ?_) _ _ hP hS
  intro H locs hP hS
  refine lv_lconst (v := 0) hx hb d_M_share_0 (by decide) ?_
  refine lv_lstore_n (lv' := [(3, .long 0), (0, .ref h0), (1, .int p0), (2, .int p1)]) hx hb d_M_share_1 rfl hl (by decide) rfl (fun ls hl => ?_)
  refine lv_iconst (v := 0) hx hb d_M_share_2 (by decide) ?_
  refine lv_istore (lv' := [(5, .int 0), (3, .long 0), (0, .ref h0), (1, .int p0), (2, .int p1)]) hx hb d_M_share_3 hl (by decide) rfl (fun ls hl => ?_)
  have hl := lv_sub hl [2, 3, 4, 1, 0] rfl
  obtain ⟨I5, μ5, hi5, hs5⟩ := hw
  have L5 : ∀ (n : Nat) (l3_5 : Int64) (l5_5 : Int32) (H : Heap) (locs : List Loc) (ls : Array Slot), μ5 l3_5 l5_5 < n → I5 l3_5 l5_5 → lv_has ls 7 [(0, .ref h0), (1, .int p0), (2, .int p1), (3, .long l3_5), (5, .int l5_5)] → va_P (dC, dI) classes (WS_M_share cI cL cZ h0 a_currency a_sort a_closing a_average a_held a_sum a_told a_left a_step a_outside a_item v_thrown v_companies v_accounts v_done v_items v_sort v_held v_left v_step v_outside) H → va_D A (WS_M_share cI cL cZ h0 a_currency a_sort a_closing a_average a_held a_sum a_told a_left a_step a_outside a_item v_thrown v_companies v_accounts v_done v_items v_sort v_held v_left v_step v_outside) → va_S A s.heap H locs → W p l e (headSpec ws_M_share rm_M_share).room s m ([.ref h0, .int p0, .int p1] : List Value).toArray below meth c H locs 0 0 (MQ below (QC_M_share dC dI cI cL cZ A h0 a_currency a_sort a_closing a_average a_held a_sum a_told a_left a_step a_outside a_item v_thrown v_companies v_accounts v_done v_items v_sort v_held v_left v_step v_outside post) ([.ref h0, .int p0, .int p1] : List Value).toArray s 0 0 A) (F0 m 5 ls []) := by
    intro n
    induction n with
    | zero => intro l3_5 l5_5 H locs ls hn; exact absurd hn (Nat.not_lt_zero _)
    | succ n ih5 =>
      intro l3_5 l5_5 H locs ls hn5 hI hl hP hD hS
      have hw := hs5 l3_5 l5_5 hI
      refine lv_iload hx hb d_M_share_5 (lv_at hl 4 rfl) ?_
      refine lv_aload_n hx hb d_M_share_7 rfl (lv_at hl 0 rfl) ?_
      refine va_get (D := (dC, dI)) (ci := 3) (v := .int v_accounts) (C := R_M) (T := F_M) (N := 16) hx hb hts (kx_in in_M) hown hK hP 0 rfl rfl 2 (by decide) (hts _ (kx_w iw_477)) (fun _ h9 => h9) rfl d_M_share_8 ?_
      refine lv_icmp_ge (tgt := 50) hx hb d_M_share_11 rfl (fun hc => ?_) (fun hc => ?_)
      ·
        have hw := hw.1 hc
        refine lv_lload_n hx hb d_M_share_50 rfl (lv_at hl 3 rfl) ?_
        refine lv_ldc2 (v := 10000000000000000) hx hb hown (hts _ (kx_w iw_604)) d_M_share_51 ?_
        refine lv_aload_n hx hb d_M_share_54 rfl (lv_at hl 0 rfl) ?_
        refine lv_iload_n hx hb d_M_share_55 rfl (lv_at hl 1 rfl) ?_
        refine kx_calll (ws' := fun u56 => (WS_M_share cI cL cZ h0 a_currency a_sort a_closing a_average a_held a_sum a_told a_left a_step a_outside a_item u56 v_companies v_accounts v_done v_items v_sort v_held v_left v_step v_outside)) (va_runV (As := [.int p0]) (rest := [.long 10000000000000000, .long l3_5]) ⟨hx, hb, hml, hown, hts⟩ (c_M_effective l dC dI cI cL cZ h0 a_currency a_sort a_closing a_average a_held a_sum a_told a_left a_step a_outside a_item v_thrown v_companies v_accounts v_done v_items v_held H.size p0 hw) ⟨(callB_of 1 hts (kx_good iw_602) rfl rfl rfl (hts _ (kx_w iw_4)) (hts _ (kx_w iw_645)) (by decide +kernel) ⟨Nat.le_of_ble_eq_true rfl, Nat.le_of_ble_eq_true rfl⟩), (hts _ (kx_w iw_600)), (hts _ (kx_w iw_601))⟩ (kx_preV hN hK hP hD [0, 2] (by decide) rfl 0 rfl rfl) rfl rfl hl.1 rfl (lv_room (Nat.le_of_ble_eq_true rfl)) d_M_share_56 ⟨Nat.le_of_ble_eq_true rfl, Nat.le_of_ble_eq_true rfl⟩) hP hD hS hA [0, 2] [1, 3, 4, 5] rfl rfl (by decide) (by decide) [4, 0, 5, 1, 2, 3] (by decide) (fun _ => rfl) (fun r56 u56 H locs hw hP hD hS => ?_)
        have hP : va_P (dC, dI) classes (WS_M_share cI cL cZ h0 a_currency a_sort a_closing a_average a_held a_sum a_told a_left a_step a_outside a_item u56 v_companies v_accounts v_done v_items v_sort v_held v_left v_step v_outside) H := hP
        have hD : va_D A (WS_M_share cI cL cZ h0 a_currency a_sort a_closing a_average a_held a_sum a_told a_left a_step a_outside a_item u56 v_companies v_accounts v_done v_items v_sort v_held v_left v_step v_outside) := hD
        refine lv_lsub hx hb d_M_share_59 ?_
        refine kx_calll (ws' := fun u60 => (WS_M_share cI cL cZ h0 a_currency a_sort a_closing a_average a_held a_sum a_told a_left a_step a_outside a_item u56 v_companies v_accounts v_done v_items v_sort v_held v_left v_step v_outside)) (va_runS (As := [.long l3_5, .long (10000000000000000 - r56)]) (rest := []) ⟨hx, hb, hml, hown, hts⟩ (c_M_part l dC dI cI cL cZ  H.size l3_5 (10000000000000000 - r56) hw) ⟨(callB_of 2 hts (kx_good iw_648) rfl rfl rfl (hts _ (kx_w iw_4)) (hts _ (kx_w iw_646)) (by decide +kernel) ⟨Nat.le_of_ble_eq_true rfl, Nat.le_of_ble_eq_true rfl⟩), (hts _ (kx_w iw_647))⟩ (kx_preS hN hK hP hD [] (by decide) rfl) rfl rfl hl.1 rfl (lv_room (Nat.le_of_ble_eq_true rfl)) d_M_share_60 ⟨Nat.le_of_ble_eq_true rfl, Nat.le_of_ble_eq_true rfl⟩) hP hD hS hA [] [0, 1, 2, 3, 4, 5] rfl rfl (by decide) (by decide) [0, 1, 2, 3, 4, 5] (by decide) (fun _ => rfl) (fun r60 u60 H locs hw hP hD hS => ?_)
        have hP : va_P (dC, dI) classes (WS_M_share cI cL cZ h0 a_currency a_sort a_closing a_average a_held a_sum a_told a_left a_step a_outside a_item u56 v_companies v_accounts v_done v_items v_sort v_held v_left v_step v_outside) H := hP
        have hD : va_D A (WS_M_share cI cL cZ h0 a_currency a_sort a_closing a_average a_held a_sum a_told a_left a_step a_outside a_item u56 v_companies v_accounts v_done v_items v_sort v_held v_left v_step v_outside) := hD
        refine lv_lstore (lv' := [(5, .long r60), (0, .ref h0), (1, .int p0), (2, .int p1), (3, .long l3_5)]) hx hb d_M_share_63 hl (by decide) rfl (fun ls hl => ?_)
        refine lv_aload_n hx hb d_M_share_65 rfl (lv_at hl 1 rfl) ?_
        refine va_get (D := (dC, dI)) (ci := 3) (v := .ref a_outside) (C := R_M) (T := F_M) (N := 16) hx hb hts (kx_in in_M) hown hK hP 0 rfl rfl 13 (by decide) (hts _ (kx_w iw_488)) (fun _ h9 => h9) rfl d_M_share_66 ?_
        refine lv_iload_n hx hb d_M_share_69 rfl (lv_at hl 2 rfl) ?_
        refine lv_lload hx hb d_M_share_70 (lv_at hl 0 rfl) ?_
        refine lv_lneg hx hb d_M_share_72 ?_
        obtain ⟨hi, hw⟩ := hw
        refine va_last hx hb hK hP hD hS 5 1 rfl rfl hi d_M_share_73 (fun H locs hP hD hS => ?_)
        have hP : va_P (dC, dI) classes (WS_M_share cI cL cZ h0 a_currency a_sort a_closing a_average a_held a_sum a_told a_left a_step a_outside a_item u56 v_companies v_accounts v_done v_items v_sort v_held v_left v_step (vp_updL v_outside p0.toNatClampNeg (-r60))) H := hP
        have hD : va_D A (WS_M_share cI cL cZ h0 a_currency a_sort a_closing a_average a_held a_sum a_told a_left a_step a_outside a_item u56 v_companies v_accounts v_done v_items v_sort v_held v_left v_step (vp_updL v_outside p0.toNatClampNeg (-r60))) := hD
        refine lv_aload_n hx hb d_M_share_74 rfl (lv_at hl 1 rfl) ?_
        refine va_get (D := (dC, dI)) (ci := 3) (v := .ref a_left) (C := R_M) (T := F_M) (N := 16) hx hb hts (kx_in in_M) hown hK hP 0 rfl rfl 11 (by decide) (hts _ (kx_w iw_486)) (fun _ h9 => h9) rfl d_M_share_75 ?_
        refine lv_iload_n hx hb d_M_share_78 rfl (lv_at hl 2 rfl) ?_
        refine lv_iload_n hx hb d_M_share_79 rfl (lv_at hl 3 rfl) ?_
        refine lv_iconst (v := (-1)) hx hb d_M_share_80 (by decide) ?_
        refine kx_calli (ws' := fun u81 => (WS_M_share cI cL cZ h0 a_currency a_sort a_closing a_average a_held a_sum a_told a_left a_step a_outside a_item u56 v_companies v_accounts v_done v_items v_sort v_held v_left v_step (vp_updL v_outside p0.toNatClampNeg (-r60)))) (va_runS (As := [.int p0, .int p1, .int (-1)]) (rest := [.ref a_left]) ⟨hx, hb, hml, hown, hts⟩ (c_M_cell l dC dI cI cL cZ  H.size p0 p1 (-1) hw) ⟨(callB_of 3 hts (kx_good iw_573) rfl rfl rfl (hts _ (kx_w iw_4)) (hts _ (kx_w iw_571)) (by decide +kernel) ⟨Nat.le_of_ble_eq_true rfl, Nat.le_of_ble_eq_true rfl⟩), (hts _ (kx_w iw_572))⟩ (kx_preS hN hK hP hD [] (by decide) rfl) rfl rfl hl.1 rfl (lv_room (Nat.le_of_ble_eq_true rfl)) d_M_share_81 ⟨Nat.le_of_ble_eq_true rfl, Nat.le_of_ble_eq_true rfl⟩) hP hD hS hA [] [0, 1, 2, 3, 4, 5] rfl rfl (by decide) (by decide) [0, 1, 2, 3, 4, 5] (by decide) (fun _ => rfl) (fun r81 u81 H locs hw hP hD hS => ?_)
        have hP : va_P (dC, dI) classes (WS_M_share cI cL cZ h0 a_currency a_sort a_closing a_average a_held a_sum a_told a_left a_step a_outside a_item u56 v_companies v_accounts v_done v_items v_sort v_held v_left v_step (vp_updL v_outside p0.toNatClampNeg (-r60))) H := hP
        have hD : va_D A (WS_M_share cI cL cZ h0 a_currency a_sort a_closing a_average a_held a_sum a_told a_left a_step a_outside a_item u56 v_companies v_accounts v_done v_items v_sort v_held v_left v_step (vp_updL v_outside p0.toNatClampNeg (-r60))) := hD
        refine lv_dup2_11 hx hb d_M_share_84 rfl rfl ?_
        obtain ⟨hi, hw⟩ := hw
        refine va_lald hx hb hK hP 3 1 rfl rfl hi d_M_share_85 ?_
        refine lv_lload hx hb d_M_share_86 (lv_at hl 0 rfl) ?_
        refine lv_ladd hx hb d_M_share_88 ?_
        obtain ⟨hi, hw⟩ := hw
        refine va_last hx hb hK hP hD hS 3 1 rfl rfl hi d_M_share_89 (fun H locs hP hD hS => ?_)
        have hP : va_P (dC, dI) classes (WS_M_share cI cL cZ h0 a_currency a_sort a_closing a_average a_held a_sum a_told a_left a_step a_outside a_item u56 v_companies v_accounts v_done v_items v_sort v_held (vp_updL v_left r81.toNatClampNeg ((v_left r81.toNatClampNeg) + r60)) v_step (vp_updL v_outside p0.toNatClampNeg (-r60))) H := hP
        have hD : va_D A (WS_M_share cI cL cZ h0 a_currency a_sort a_closing a_average a_held a_sum a_told a_left a_step a_outside a_item u56 v_companies v_accounts v_done v_items v_sort v_held (vp_updL v_left r81.toNatClampNeg ((v_left r81.toNatClampNeg) + r60)) v_step (vp_updL v_outside p0.toNatClampNeg (-r60))) := hD
        exact W.vret hx hb hr (fun t ht hW => ⟨⟨(u56, (vp_updL v_left r81.toNatClampNeg ((v_left r81.toNatClampNeg) + r60)), (vp_updL v_outside p0.toNatClampNeg (-r60))), rfl, hw, ⟨by rw [ht]; exact hP, hD⟩⟩, hS.F ht⟩) hS.2.2 d_M_share_90
      ·
        have hw := hw.2 hc
        refine lv_lload_n hx hb d_M_share_14 rfl (lv_at hl 3 rfl) ?_
        refine lv_aload_n hx hb d_M_share_15 rfl (lv_at hl 0 rfl) ?_
        refine va_get (D := (dC, dI)) (ci := 3) (v := .ref a_sort) (C := R_M) (T := F_M) (N := 16) hx hb hts (kx_in in_M) hown hK hP 0 rfl rfl 4 (by decide) (hts _ (kx_w iw_479)) (fun _ h9 => h9) rfl d_M_share_16 ?_
        refine lv_iload hx hb d_M_share_19 (lv_at hl 4 rfl) ?_
        obtain ⟨hi, hw⟩ := hw
        refine va_iald hx hb hK hP 1 0 rfl rfl hi d_M_share_21 ?_
        refine lv_iconst (v := 1) hx hb d_M_share_22 (by decide) ?_
        refine lv_icmp_ne (tgt := 41) hx hb d_M_share_23 rfl (fun hc => ?_) (fun hc => ?_)
        ·
          have hw := hw.1 hc
          refine lv_lconst (v := 0) hx hb d_M_share_41 (by decide) ?_
          refine lv_ladd hx hb d_M_share_42 ?_
          refine lv_topl (fun x43 e43 => ?_)
          have hw := hw x43 e43
          refine lv_lstore_n (lv' := [(3, .long x43), (0, .ref h0), (1, .int p0), (2, .int p1), (5, .int l5_5)]) hx hb d_M_share_43 rfl hl (by decide) rfl (fun ls hl => ?_)
          refine lv_iinc (v := (l5_5 + 1)) (lv' := [(5, .int (l5_5 + 1)), (3, .long x43), (0, .ref h0), (1, .int p0), (2, .int p1)]) hx hb d_M_share_44 hl (k := 4) rfl rfl (by decide) rfl (fun ls hl => ?_)
          refine lv_goto (tgt := 5) hx hb d_M_share_47 rfl ?_
          have hl := lv_sub hl [2, 3, 4, 1, 0] rfl
          exact ih5 x43 (l5_5 + 1) _ _ _ (Nat.lt_of_lt_of_le hw.2 (Nat.le_of_lt_succ hn5)) hw.1 hl hP hD hS
        ·
          have hw := hw.2 hc
          refine lv_aload_n hx hb d_M_share_26 rfl (lv_at hl 0 rfl) ?_
          refine va_get (D := (dC, dI)) (ci := 3) (v := .ref a_step) (C := R_M) (T := F_M) (N := 16) hx hb hts (kx_in in_M) hown hK hP 0 rfl rfl 12 (by decide) (hts _ (kx_w iw_487)) (fun _ h9 => h9) rfl d_M_share_27 ?_
          refine lv_bipush (v := 12) hx hb d_M_share_30 (by decide) ?_
          refine lv_iload_n hx hb d_M_share_32 rfl (lv_at hl 1 rfl) ?_
          refine lv_imul hx hb d_M_share_33 ?_
          refine lv_iload hx hb d_M_share_34 (lv_at hl 4 rfl) ?_
          refine lv_iadd hx hb d_M_share_36 ?_
          obtain ⟨hi, hw⟩ := hw
          refine va_lald hx hb hK hP 4 1 rfl rfl hi d_M_share_37 ?_
          refine lv_goto (tgt := 42) hx hb d_M_share_38 rfl ?_
          refine lv_ladd hx hb d_M_share_42 ?_
          refine lv_topl (fun x43 e43 => ?_)
          have hw := hw x43 e43
          refine lv_lstore_n (lv' := [(3, .long x43), (0, .ref h0), (1, .int p0), (2, .int p1), (5, .int l5_5)]) hx hb d_M_share_43 rfl hl (by decide) rfl (fun ls hl => ?_)
          refine lv_iinc (v := (l5_5 + 1)) (lv' := [(5, .int (l5_5 + 1)), (3, .long x43), (0, .ref h0), (1, .int p0), (2, .int p1)]) hx hb d_M_share_44 hl (k := 4) rfl rfl (by decide) rfl (fun ls hl => ?_)
          refine lv_goto (tgt := 5) hx hb d_M_share_47 rfl ?_
          have hl := lv_sub hl [2, 3, 4, 1, 0] rfl
          exact ih5 x43 (l5_5 + 1) _ _ _ (Nat.lt_of_lt_of_le hw.2 (Nat.le_of_lt_succ hn5)) hw.1 hl hP hD hS
  exact L5 _ 0 0 _ _ _ (Nat.lt_succ_self _) hi5 hl hP hD hS
/-! ConsolidationDeskModel.consolidate()I -/
abbrev y_M_consolidate : MethodName := ⟨"ConsolidationDeskModel", "consolidate", "()I"⟩
theorem d_M_consolidate_0 : decode prog_5_method_26_code 0 = .ok (.aload_n 0, 1) := by decide +kernel
theorem d_M_consolidate_1 : decode prog_5_method_26_code 1 = .ok (.iconst 0, 1) := by decide +kernel
theorem d_M_consolidate_2 : decode prog_5_method_26_code 2 = .ok (.putfield 49, 3) := by decide +kernel
theorem d_M_consolidate_5 : decode prog_5_method_26_code 5 = .ok (.iconst 0, 1) := by decide +kernel
theorem d_M_consolidate_6 : decode prog_5_method_26_code 6 = .ok (.istore_n 1, 1) := by decide +kernel
theorem d_M_consolidate_7 : decode prog_5_method_26_code 7 = .ok (.iload_n 1, 1) := by decide +kernel
theorem d_M_consolidate_8 : decode prog_5_method_26_code 8 = .ok (.aload_n 0, 1) := by decide +kernel
theorem d_M_consolidate_9 : decode prog_5_method_26_code 9 = .ok (.getfield 44, 3) := by decide +kernel
theorem d_M_consolidate_12 : decode prog_5_method_26_code 12 = .ok (.if_icmp .ge 29, 3) := by decide +kernel
theorem d_M_consolidate_15 : decode prog_5_method_26_code 15 = .ok (.aload_n 0, 1) := by decide +kernel
theorem d_M_consolidate_16 : decode prog_5_method_26_code 16 = .ok (.iload_n 1, 1) := by decide +kernel
theorem d_M_consolidate_17 : decode prog_5_method_26_code 17 = .ok (.invokevirtual 91, 3) := by decide +kernel
theorem d_M_consolidate_20 : decode prog_5_method_26_code 20 = .ok (.ifCond .eq 15, 3) := by decide +kernel
theorem d_M_consolidate_23 : decode prog_5_method_26_code 23 = .ok (.aload_n 0, 1) := by decide +kernel
theorem d_M_consolidate_24 : decode prog_5_method_26_code 24 = .ok (.iload_n 1, 1) := by decide +kernel
theorem d_M_consolidate_25 : decode prog_5_method_26_code 25 = .ok (.invokevirtual 115, 3) := by decide +kernel
theorem d_M_consolidate_28 : decode prog_5_method_26_code 28 = .ok (.ifCond .ne 7, 3) := by decide +kernel
theorem d_M_consolidate_31 : decode prog_5_method_26_code 31 = .ok (.iconst (-1), 1) := by decide +kernel
theorem d_M_consolidate_32 : decode prog_5_method_26_code 32 = .ok (.iload_n 1, 1) := by decide +kernel
theorem d_M_consolidate_33 : decode prog_5_method_26_code 33 = .ok (.isub, 1) := by decide +kernel
theorem d_M_consolidate_34 : decode prog_5_method_26_code 34 = .ok (.ireturn, 1) := by decide +kernel
theorem d_M_consolidate_35 : decode prog_5_method_26_code 35 = .ok (.iinc 1 1, 3) := by decide +kernel
theorem d_M_consolidate_38 : decode prog_5_method_26_code 38 = .ok (.goto (-31), 3) := by decide +kernel
theorem d_M_consolidate_41 : decode prog_5_method_26_code 41 = .ok (.iconst 0, 1) := by decide +kernel
theorem d_M_consolidate_42 : decode prog_5_method_26_code 42 = .ok (.istore_n 1, 1) := by decide +kernel
theorem d_M_consolidate_43 : decode prog_5_method_26_code 43 = .ok (.iload_n 1, 1) := by decide +kernel
theorem d_M_consolidate_44 : decode prog_5_method_26_code 44 = .ok (.iconst 4, 1) := by decide +kernel
theorem d_M_consolidate_45 : decode prog_5_method_26_code 45 = .ok (.if_icmp .ge 57, 3) := by decide +kernel
theorem d_M_consolidate_48 : decode prog_5_method_26_code 48 = .ok (.iconst 0, 1) := by decide +kernel
theorem d_M_consolidate_49 : decode prog_5_method_26_code 49 = .ok (.istore_n 2, 1) := by decide +kernel
theorem d_M_consolidate_50 : decode prog_5_method_26_code 50 = .ok (.iload_n 2, 1) := by decide +kernel
theorem d_M_consolidate_51 : decode prog_5_method_26_code 51 = .ok (.aload_n 0, 1) := by decide +kernel
theorem d_M_consolidate_52 : decode prog_5_method_26_code 52 = .ok (.getfield 44, 3) := by decide +kernel
theorem d_M_consolidate_55 : decode prog_5_method_26_code 55 = .ok (.if_icmp .ge 41, 3) := by decide +kernel
theorem d_M_consolidate_58 : decode prog_5_method_26_code 58 = .ok (.aload_n 0, 1) := by decide +kernel
theorem d_M_consolidate_59 : decode prog_5_method_26_code 59 = .ok (.getfield 7, 3) := by decide +kernel
theorem d_M_consolidate_62 : decode prog_5_method_26_code 62 = .ok (.iload_n 2, 1) := by decide +kernel
theorem d_M_consolidate_63 : decode prog_5_method_26_code 63 = .ok (.iaload, 1) := by decide +kernel
theorem d_M_consolidate_64 : decode prog_5_method_26_code 64 = .ok (.iload_n 1, 1) := by decide +kernel
theorem d_M_consolidate_65 : decode prog_5_method_26_code 65 = .ok (.if_icmp .ne 25, 3) := by decide +kernel
theorem d_M_consolidate_68 : decode prog_5_method_26_code 68 = .ok (.aload_n 0, 1) := by decide +kernel
theorem d_M_consolidate_69 : decode prog_5_method_26_code 69 = .ok (.getfield 16, 3) := by decide +kernel
theorem d_M_consolidate_72 : decode prog_5_method_26_code 72 = .ok (.iload_n 1, 1) := by decide +kernel
theorem d_M_consolidate_73 : decode prog_5_method_26_code 73 = .ok (.iaload, 1) := by decide +kernel
theorem d_M_consolidate_74 : decode prog_5_method_26_code 74 = .ok (.ifCond .ne 16, 3) := by decide +kernel
theorem d_M_consolidate_77 : decode prog_5_method_26_code 77 = .ok (.aload_n 0, 1) := by decide +kernel
theorem d_M_consolidate_78 : decode prog_5_method_26_code 78 = .ok (.iload_n 2, 1) := by decide +kernel
theorem d_M_consolidate_79 : decode prog_5_method_26_code 79 = .ok (.invokevirtual 91, 3) := by decide +kernel
theorem d_M_consolidate_82 : decode prog_5_method_26_code 82 = .ok (.ifCond .eq 8, 3) := by decide +kernel
theorem d_M_consolidate_85 : decode prog_5_method_26_code 85 = .ok (.bipush (-100), 2) := by decide +kernel
theorem d_M_consolidate_87 : decode prog_5_method_26_code 87 = .ok (.iload_n 1, 1) := by decide +kernel
theorem d_M_consolidate_88 : decode prog_5_method_26_code 88 = .ok (.isub, 1) := by decide +kernel
theorem d_M_consolidate_89 : decode prog_5_method_26_code 89 = .ok (.ireturn, 1) := by decide +kernel
theorem d_M_consolidate_90 : decode prog_5_method_26_code 90 = .ok (.iinc 2 1, 3) := by decide +kernel
theorem d_M_consolidate_93 : decode prog_5_method_26_code 93 = .ok (.goto (-43), 3) := by decide +kernel
theorem d_M_consolidate_96 : decode prog_5_method_26_code 96 = .ok (.iinc 1 1, 3) := by decide +kernel
theorem d_M_consolidate_99 : decode prog_5_method_26_code 99 = .ok (.goto (-56), 3) := by decide +kernel
theorem d_M_consolidate_102 : decode prog_5_method_26_code 102 = .ok (.aload_n 0, 1) := by decide +kernel
theorem d_M_consolidate_103 : decode prog_5_method_26_code 103 = .ok (.invokevirtual 55, 3) := by decide +kernel
theorem d_M_consolidate_106 : decode prog_5_method_26_code 106 = .ok (.istore_n 1, 1) := by decide +kernel
theorem d_M_consolidate_107 : decode prog_5_method_26_code 107 = .ok (.iload_n 1, 1) := by decide +kernel
theorem d_M_consolidate_108 : decode prog_5_method_26_code 108 = .ok (.ifCond .ge 7, 3) := by decide +kernel
theorem d_M_consolidate_111 : decode prog_5_method_26_code 111 = .ok (.sipush (-200), 3) := by decide +kernel
theorem d_M_consolidate_114 : decode prog_5_method_26_code 114 = .ok (.ireturn, 1) := by decide +kernel
theorem d_M_consolidate_115 : decode prog_5_method_26_code 115 = .ok (.aload_n 0, 1) := by decide +kernel
theorem d_M_consolidate_116 : decode prog_5_method_26_code 116 = .ok (.iconst 1, 1) := by decide +kernel
theorem d_M_consolidate_117 : decode prog_5_method_26_code 117 = .ok (.putfield 119, 3) := by decide +kernel
theorem d_M_consolidate_120 : decode prog_5_method_26_code 120 = .ok (.iconst 0, 1) := by decide +kernel
theorem d_M_consolidate_121 : decode prog_5_method_26_code 121 = .ok (.istore_n 2, 1) := by decide +kernel
theorem d_M_consolidate_122 : decode prog_5_method_26_code 122 = .ok (.iload_n 2, 1) := by decide +kernel
theorem d_M_consolidate_123 : decode prog_5_method_26_code 123 = .ok (.sipush 1872, 3) := by decide +kernel
theorem d_M_consolidate_126 : decode prog_5_method_26_code 126 = .ok (.if_icmp .ge 16, 3) := by decide +kernel
theorem d_M_consolidate_129 : decode prog_5_method_26_code 129 = .ok (.aload_n 0, 1) := by decide +kernel
theorem d_M_consolidate_130 : decode prog_5_method_26_code 130 = .ok (.getfield 32, 3) := by decide +kernel
theorem d_M_consolidate_133 : decode prog_5_method_26_code 133 = .ok (.iload_n 2, 1) := by decide +kernel
theorem d_M_consolidate_134 : decode prog_5_method_26_code 134 = .ok (.lconst 0, 1) := by decide +kernel
theorem d_M_consolidate_135 : decode prog_5_method_26_code 135 = .ok (.lastore, 1) := by decide +kernel
theorem d_M_consolidate_136 : decode prog_5_method_26_code 136 = .ok (.iinc 2 1, 3) := by decide +kernel
theorem d_M_consolidate_139 : decode prog_5_method_26_code 139 = .ok (.goto (-17), 3) := by decide +kernel
theorem d_M_consolidate_142 : decode prog_5_method_26_code 142 = .ok (.iconst 0, 1) := by decide +kernel
theorem d_M_consolidate_143 : decode prog_5_method_26_code 143 = .ok (.istore_n 2, 1) := by decide +kernel
theorem d_M_consolidate_144 : decode prog_5_method_26_code 144 = .ok (.iload_n 2, 1) := by decide +kernel
theorem d_M_consolidate_145 : decode prog_5_method_26_code 145 = .ok (.aload_n 0, 1) := by decide +kernel
theorem d_M_consolidate_146 : decode prog_5_method_26_code 146 = .ok (.getfield 44, 3) := by decide +kernel
theorem d_M_consolidate_149 : decode prog_5_method_26_code 149 = .ok (.if_icmp .ge 30, 3) := by decide +kernel
theorem d_M_consolidate_152 : decode prog_5_method_26_code 152 = .ok (.aload_n 0, 1) := by decide +kernel
theorem d_M_consolidate_153 : decode prog_5_method_26_code 153 = .ok (.getfield 38, 3) := by decide +kernel
theorem d_M_consolidate_156 : decode prog_5_method_26_code 156 = .ok (.iload_n 2, 1) := by decide +kernel
theorem d_M_consolidate_157 : decode prog_5_method_26_code 157 = .ok (.lconst 0, 1) := by decide +kernel
theorem d_M_consolidate_158 : decode prog_5_method_26_code 158 = .ok (.lastore, 1) := by decide +kernel
theorem d_M_consolidate_159 : decode prog_5_method_26_code 159 = .ok (.aload_n 0, 1) := by decide +kernel
theorem d_M_consolidate_160 : decode prog_5_method_26_code 160 = .ok (.iload_n 2, 1) := by decide +kernel
theorem d_M_consolidate_161 : decode prog_5_method_26_code 161 = .ok (.invokevirtual 91, 3) := by decide +kernel
theorem d_M_consolidate_164 : decode prog_5_method_26_code 164 = .ok (.ifCond .eq 9, 3) := by decide +kernel
theorem d_M_consolidate_167 : decode prog_5_method_26_code 167 = .ok (.aload_n 0, 1) := by decide +kernel
theorem d_M_consolidate_168 : decode prog_5_method_26_code 168 = .ok (.iload_n 2, 1) := by decide +kernel
theorem d_M_consolidate_169 : decode prog_5_method_26_code 169 = .ok (.iload_n 1, 1) := by decide +kernel
theorem d_M_consolidate_170 : decode prog_5_method_26_code 170 = .ok (.invokevirtual 123, 3) := by decide +kernel
theorem d_M_consolidate_173 : decode prog_5_method_26_code 173 = .ok (.iinc 2 1, 3) := by decide +kernel
theorem d_M_consolidate_176 : decode prog_5_method_26_code 176 = .ok (.goto (-32), 3) := by decide +kernel
theorem d_M_consolidate_179 : decode prog_5_method_26_code 179 = .ok (.aload_n 0, 1) := by decide +kernel
theorem d_M_consolidate_180 : decode prog_5_method_26_code 180 = .ok (.iconst 0, 1) := by decide +kernel
theorem d_M_consolidate_181 : decode prog_5_method_26_code 181 = .ok (.invokevirtual 127, 3) := by decide +kernel
theorem d_M_consolidate_184 : decode prog_5_method_26_code 184 = .ok (.aload_n 0, 1) := by decide +kernel
theorem d_M_consolidate_185 : decode prog_5_method_26_code 185 = .ok (.iconst 0, 1) := by decide +kernel
theorem d_M_consolidate_186 : decode prog_5_method_26_code 186 = .ok (.putfield 131, 3) := by decide +kernel
theorem d_M_consolidate_189 : decode prog_5_method_26_code 189 = .ok (.aload_n 0, 1) := by decide +kernel
theorem d_M_consolidate_190 : decode prog_5_method_26_code 190 = .ok (.invokevirtual 134, 3) := by decide +kernel
theorem d_M_consolidate_193 : decode prog_5_method_26_code 193 = .ok (.aload_n 0, 1) := by decide +kernel
theorem d_M_consolidate_194 : decode prog_5_method_26_code 194 = .ok (.iconst 1, 1) := by decide +kernel
theorem d_M_consolidate_195 : decode prog_5_method_26_code 195 = .ok (.invokevirtual 127, 3) := by decide +kernel
theorem d_M_consolidate_198 : decode prog_5_method_26_code 198 = .ok (.iconst 1, 1) := by decide +kernel
theorem d_M_consolidate_199 : decode prog_5_method_26_code 199 = .ok (.istore_n 2, 1) := by decide +kernel
theorem d_M_consolidate_200 : decode prog_5_method_26_code 200 = .ok (.iload_n 2, 1) := by decide +kernel
theorem d_M_consolidate_201 : decode prog_5_method_26_code 201 = .ok (.aload_n 0, 1) := by decide +kernel
theorem d_M_consolidate_202 : decode prog_5_method_26_code 202 = .ok (.getfield 44, 3) := by decide +kernel
theorem d_M_consolidate_205 : decode prog_5_method_26_code 205 = .ok (.if_icmp .ge 23, 3) := by decide +kernel
theorem d_M_consolidate_208 : decode prog_5_method_26_code 208 = .ok (.aload_n 0, 1) := by decide +kernel
theorem d_M_consolidate_209 : decode prog_5_method_26_code 209 = .ok (.iload_n 2, 1) := by decide +kernel
theorem d_M_consolidate_210 : decode prog_5_method_26_code 210 = .ok (.invokevirtual 91, 3) := by decide +kernel
theorem d_M_consolidate_213 : decode prog_5_method_26_code 213 = .ok (.ifCond .eq 9, 3) := by decide +kernel
theorem d_M_consolidate_216 : decode prog_5_method_26_code 216 = .ok (.aload_n 0, 1) := by decide +kernel
theorem d_M_consolidate_217 : decode prog_5_method_26_code 217 = .ok (.iload_n 2, 1) := by decide +kernel
theorem d_M_consolidate_218 : decode prog_5_method_26_code 218 = .ok (.iload_n 1, 1) := by decide +kernel
theorem d_M_consolidate_219 : decode prog_5_method_26_code 219 = .ok (.invokevirtual 137, 3) := by decide +kernel
theorem d_M_consolidate_222 : decode prog_5_method_26_code 222 = .ok (.iinc 2 1, 3) := by decide +kernel
theorem d_M_consolidate_225 : decode prog_5_method_26_code 225 = .ok (.goto (-25), 3) := by decide +kernel
theorem d_M_consolidate_228 : decode prog_5_method_26_code 228 = .ok (.aload_n 0, 1) := by decide +kernel
theorem d_M_consolidate_229 : decode prog_5_method_26_code 229 = .ok (.iconst 2, 1) := by decide +kernel
theorem d_M_consolidate_230 : decode prog_5_method_26_code 230 = .ok (.invokevirtual 127, 3) := by decide +kernel
theorem d_M_consolidate_233 : decode prog_5_method_26_code 233 = .ok (.iconst 0, 1) := by decide +kernel
theorem d_M_consolidate_234 : decode prog_5_method_26_code 234 = .ok (.ireturn, 1) := by decide +kernel
abbrev WS_M_consolidate (cI cL cZ : ClassId)  (h0 a_currency a_sort a_closing a_average a_held a_sum a_told a_left a_step a_outside a_item : Nat) (v_thrown : Int32) (v_companies : Int32) (v_accounts : Int32) (v_done : Int32) (v_items : Int32) (v_currency : (Nat → Int32)) (v_sort : (Nat → Int32)) (v_closing : (Nat → Int32)) (v_average : (Nat → Int32)) (v_held : (Nat → Int32)) (v_sum : (Nat → Int64)) (v_told : (Nat → Int64)) (v_left : (Nat → Int64)) (v_step : (Nat → Int64)) (v_outside : (Nat → Int64)) (v_item : (Nat → Int64)) : va_W := [(h0, .inr (3, [.int v_thrown, .int v_companies, .int v_accounts, .ref a_currency, .ref a_sort, .ref a_closing, .ref a_average, .ref a_held, .ref a_sum, .ref a_told, .int v_done, .ref a_left, .ref a_step, .ref a_outside, .int v_items, .ref a_item])), (a_currency, .inl (cI, 12, .inl v_currency)), (a_sort, .inl (cI, 12, .inl v_sort)), (a_closing, .inl (cI, 4, .inl v_closing)), (a_average, .inl (cI, 4, .inl v_average)), (a_held, .inl (cI, 144, .inl v_held)), (a_sum, .inl (cL, 1872, .inr (.inl v_sum))), (a_told, .inl (cL, 144, .inr (.inl v_told))), (a_left, .inl (cL, 1872, .inr (.inl v_left))), (a_step, .inl (cL, 432, .inr (.inl v_step))), (a_outside, .inl (cL, 12, .inr (.inl v_outside))), (a_item, .inl (cL, 6400, .inr (.inl v_item)))]
def wp_M_consolidate   (v_thrown : Int32) (v_companies : Int32) (v_accounts : Int32) (v_done : Int32) (v_items : Int32) (v_currency : (Nat → Int32)) (v_sort : (Nat → Int32)) (v_closing : (Nat → Int32)) (v_average : (Nat → Int32)) (v_held : (Nat → Int32)) (v_sum : (Nat → Int64)) (v_told : (Nat → Int64)) (v_left : (Nat → Int64)) (v_step : (Nat → Int64)) (v_outside : (Nat → Int64)) (v_item : (Nat → Int64)) (post : Int32 → (Int32 × Int32 × Int32 × (Nat → Int64) × (Nat → Int64) × (Nat → Int64) × (Nat → Int64)) → Prop) : Prop := (∃ (I7 : Int32 → Int32 → Prop) (μ7 : Int32 → Int32 → Nat), I7 0 0 ∧ ∀ (l1_7 : Int32) (v_thrown_7 : Int32), I7 l1_7 v_thrown_7 → ((v_companies ≤ l1_7 → (∃ (I43 : Int32 → Prop) (μ43 : Int32 → Nat), I43 0 ∧ ∀ (l1_43 : Int32), I43 l1_43 → ((4 ≤ l1_43 → (wp_M_reserve v_accounts v_sort (fun (r103 : Int32) (u103 : Unit) => ((0 ≤ r103 → (∃ (I122 : Int32 → (Nat → Int64) → Prop) (μ122 : Int32 → (Nat → Int64) → Nat), I122 0 v_left ∧ ∀ (l2_122 : Int32) (v_left_122 : (Nat → Int64)), I122 l2_122 v_left_122 → ((1872 ≤ l2_122 → (∃ (I144 : Int32 → (Nat → Int64) → (Nat → Int64) → Prop) (μ144 : Int32 → (Nat → Int64) → (Nat → Int64) → Nat), I144 0 v_left_122 v_outside ∧ ∀ (l2_144 : Int32) (v_left_144 : (Nat → Int64)) (v_outside_144 : (Nat → Int64)), I144 l2_144 v_left_144 v_outside_144 → ((v_companies ≤ l2_144 → (wp_M_mark 0 v_left_144 v_step (fun (u181 : (Nat → Int64)) => (wp_M_eliminate v_companies v_accounts 0 v_held v_left_144 v_item (fun (u190 : Int32 × (Nat → Int64) × (Nat → Int64)) => (wp_M_mark 1 u190.2.1 u181 (fun (u195 : (Nat → Int64)) => (∃ (I200 : Int32 → Int32 → (Nat → Int64) → (Nat → Int64) → Prop) (μ200 : Int32 → Int32 → (Nat → Int64) → (Nat → Int64) → Nat), I200 1 v_thrown_7 u190.2.1 v_outside_144 ∧ ∀ (l2_200 : Int32) (v_thrown_200 : Int32) (v_left_200 : (Nat → Int64)) (v_outside_200 : (Nat → Int64)), I200 l2_200 v_thrown_200 v_left_200 v_outside_200 → ((v_companies ≤ l2_200 → (wp_M_mark 2 v_left_200 u195 (fun (u230 : (Nat → Int64)) => post 0 (v_thrown_200, 1, u190.1, v_left_200, u230, v_outside_200, u190.2.2)))) ∧ (¬ v_companies ≤ l2_200 → (wp_M_isControlled l2_200 v_held (fun (r210 : Int32) (u210 : Unit) => ((r210 = 0 → I200 (l2_200 + 1) v_thrown_200 v_left_200 v_outside_200 ∧ μ200 (l2_200 + 1) v_thrown_200 v_left_200 v_outside_200 < μ200 l2_200 v_thrown_200 v_left_200 v_outside_200) ∧ (¬ r210 = 0 → (wp_M_share l2_200 r103 v_thrown_200 v_companies v_accounts v_sort v_held v_left_200 u195 v_outside_200 (fun (u219 : Int32 × (Nat → Int64) × (Nat → Int64)) => I200 (l2_200 + 1) u219.1 u219.2.1 u219.2.2 ∧ μ200 (l2_200 + 1) u219.1 u219.2.1 u219.2.2 < μ200 l2_200 v_thrown_200 v_left_200 v_outside_200)))))))))))))))) ∧ (¬ v_companies ≤ l2_144 → (vp_in l2_144 12 ∧ (wp_M_isControlled l2_144 v_held (fun (r161 : Int32) (u161 : Unit) => ((r161 = 0 → I144 (l2_144 + 1) v_left_144 (vp_updL v_outside_144 l2_144.toNatClampNeg 0) ∧ μ144 (l2_144 + 1) v_left_144 (vp_updL v_outside_144 l2_144.toNatClampNeg 0) < μ144 l2_144 v_left_144 v_outside_144) ∧ (¬ r161 = 0 → (wp_M_translate l2_144 r103 v_accounts v_currency v_sort v_closing v_average v_sum v_told v_left_144 (fun (u170 : (Nat → Int64)) => I144 (l2_144 + 1) u170 (vp_updL v_outside_144 l2_144.toNatClampNeg 0) ∧ μ144 (l2_144 + 1) u170 (vp_updL v_outside_144 l2_144.toNatClampNeg 0) < μ144 l2_144 v_left_144 v_outside_144))))))))))) ∧ (¬ 1872 ≤ l2_122 → (vp_in l2_122 1872 ∧ I122 (l2_122 + 1) (vp_updL v_left_122 l2_122.toNatClampNeg 0) ∧ μ122 (l2_122 + 1) (vp_updL v_left_122 l2_122.toNatClampNeg 0) < μ122 l2_122 v_left_122))))) ∧ (¬ 0 ≤ r103 → post (-200) (v_thrown_7, v_done, v_items, v_left, v_step, v_outside, v_item)))))) ∧ (¬ 4 ≤ l1_43 → (∃ (I50 : Int32 → Prop) (μ50 : Int32 → Nat), I50 0 ∧ ∀ (l2_50 : Int32), I50 l2_50 → ((v_companies ≤ l2_50 → I43 (l1_43 + 1) ∧ μ43 (l1_43 + 1) < μ43 l1_43) ∧ (¬ v_companies ≤ l2_50 → (vp_in l2_50 12 ∧ ((¬ (v_currency l2_50.toNatClampNeg) = l1_43 → I50 (l2_50 + 1) ∧ μ50 (l2_50 + 1) < μ50 l2_50) ∧ ((v_currency l2_50.toNatClampNeg) = l1_43 → (vp_in l1_43 4 ∧ ((¬ (v_closing l1_43.toNatClampNeg) = 0 → I50 (l2_50 + 1) ∧ μ50 (l2_50 + 1) < μ50 l2_50) ∧ ((v_closing l1_43.toNatClampNeg) = 0 → (wp_M_isControlled l2_50 v_held (fun (r79 : Int32) (u79 : Unit) => ((r79 = 0 → I50 (l2_50 + 1) ∧ μ50 (l2_50 + 1) < μ50 l2_50) ∧ (¬ r79 = 0 → post ((-100) - l1_43) (v_thrown_7, v_done, v_items, v_left, v_step, v_outside, v_item)))))))))))))))))) ∧ (¬ v_companies ≤ l1_7 → (wp_M_isControlled l1_7 v_held (fun (r17 : Int32) (u17 : Unit) => ((r17 = 0 → I7 (l1_7 + 1) v_thrown_7 ∧ μ7 (l1_7 + 1) v_thrown_7 < μ7 l1_7 v_thrown_7) ∧ (¬ r17 = 0 → (wp_M_isBalanced l1_7 v_thrown_7 v_companies v_sum (fun (r25 : Int32) (u25 : Int32) => ((¬ r25 = 0 → I7 (l1_7 + 1) u25 ∧ μ7 (l1_7 + 1) u25 < μ7 l1_7 v_thrown_7) ∧ (r25 = 0 → post ((-1) - l1_7) (u25, v_done, v_items, v_left, v_step, v_outside, v_item))))))))))))
abbrev ws_M_consolidate : List Cond := .code y_M_consolidate prog_5_method_26_code 3 (some .int) :: kxW
abbrev rm_M_consolidate : Room := { frames := 3, cells := 0, slots := 0, locals := 96 }
abbrev QC_M_consolidate (dC : Nat → ClassId) (dI : Nat → Nat → Nat) (cI cL cZ : ClassId) (A : Nat → Prop)  (h0 a_currency a_sort a_closing a_average a_held a_sum a_told a_left a_step a_outside a_item : Nat) (v_thrown : Int32) (v_companies : Int32) (v_accounts : Int32) (v_done : Int32) (v_items : Int32) (v_currency : (Nat → Int32)) (v_sort : (Nat → Int32)) (v_closing : (Nat → Int32)) (v_average : (Nat → Int32)) (v_held : (Nat → Int32)) (v_sum : (Nat → Int64)) (v_told : (Nat → Int64)) (v_left : (Nat → Int64)) (v_step : (Nat → Int64)) (v_outside : (Nat → Int64)) (v_item : (Nat → Int64)) (post : Int32 → (Int32 × Int32 × Int32 × (Nat → Int64) × (Nat → Int64) × (Nat → Int64) × (Nat → Int64)) → Prop) : Array Value → State → Outcome → State → Prop := va_Qi post (fun (u : Int32 × Int32 × Int32 × (Nat → Int64) × (Nat → Int64) × (Nat → Int64) × (Nat → Int64)) t => kx_B (dC, dI) classes A (WS_M_consolidate cI cL cZ h0 a_currency a_sort a_closing a_average a_held a_sum a_told a_left a_step a_outside a_item u.1 v_companies v_accounts u.2.1 u.2.2.1 v_currency v_sort v_closing v_average v_held v_sum v_told u.2.2.2.1 u.2.2.2.2.1 u.2.2.2.2.2.1 u.2.2.2.2.2.2) t) A
set_option maxHeartbeats 4000000 in
set_option maxRecDepth 100000 in
theorem c_M_consolidate (l : Launch) (dC : Nat → ClassId) (dI : Nat → Nat → Nat) (cI cL cZ : ClassId)  (h0 a_currency a_sort a_closing a_average a_held a_sum a_told a_left a_step a_outside a_item : Nat) (v_thrown : Int32) (v_companies : Int32) (v_accounts : Int32) (v_done : Int32) (v_items : Int32) (v_currency : (Nat → Int32)) (v_sort : (Nat → Int32)) (v_closing : (Nat → Int32)) (v_average : (Nat → Int32)) (v_held : (Nat → Int32)) (v_sum : (Nat → Int64)) (v_told : (Nat → Int64)) (v_left : (Nat → Int64)) (v_step : (Nat → Int64)) (v_outside : (Nat → Int64)) (v_item : (Nat → Int64)) (sz : Nat)  {post : Int32 → (Int32 × Int32 × Int32 × (Nat → Int64) × (Nat → Int64) × (Nat → Int64) × (Nat → Int64)) → Prop} (hw : wp_M_consolidate v_thrown v_companies v_accounts v_done v_items v_currency v_sort v_closing v_average v_held v_sum v_told v_left v_step v_outside v_item post) : Met l y_M_consolidate ws_M_consolidate rm_M_consolidate (kx_Pc (dC, dI) classes (kx_T cI cL cZ) (WS_M_consolidate cI cL cZ h0 a_currency a_sort a_closing a_average a_held a_sum a_told a_left a_step a_outside a_item v_thrown v_companies v_accounts v_done v_items v_currency v_sort v_closing v_average v_held v_sum v_told v_left v_step v_outside v_item) sz [.ref h0]) (QC_M_consolidate dC dI cI cL cZ (va_A (WS_M_consolidate cI cL cZ h0 a_currency a_sort a_closing a_average a_held a_sum a_told a_left a_step a_outside a_item v_thrown v_companies v_accounts v_done v_items v_currency v_sort v_closing v_average v_held v_sum v_told v_left v_step v_outside v_item) sz) h0 a_currency a_sort a_closing a_average a_held a_sum a_told a_left a_step a_outside a_item v_thrown v_companies v_accounts v_done v_items v_currency v_sort v_closing v_average v_held v_sum v_told v_left v_step v_outside v_item post) 0 0 (va_A (WS_M_consolidate cI cL cZ h0 a_currency a_sort a_closing a_average a_held a_sum a_told a_left a_step a_outside a_item v_thrown v_companies v_accounts v_done v_items v_currency v_sort v_closing v_average v_held v_sum v_told v_left v_step v_outside v_item) sz) := by
  refine Met.ofW (cc := prog_5_method_26_code) (maxL := 3) (ret := (some .int)) (by decide) rfl ?_
  intro p e s m args below meth c s₁ B hml hv
  obtain ⟨rfl, hsz, hP, hK, hD0, hN⟩ := hv
  have hx := B.exec
  have hb := B.bytes
  have hr := B.returns
  have hts := atoms_spec (ws := ws_M_consolidate) B.pre
  have hown : s.vm.findClass R_M = some m.cls := findClass_of_methodNamed B.named
  have hlocks := B.notSynchronized
  subst hsz
  have hD := hD0.self (sz := s.heap.size)
  generalize hAe : va_A (WS_M_consolidate cI cL cZ h0 a_currency a_sort a_closing a_average a_held a_sum a_told a_left a_step a_outside a_item v_thrown v_companies v_accounts v_done v_items v_currency v_sort v_closing v_average v_held v_sum v_told v_left v_step v_outside v_item) s.heap.size = A at hD ⊢
  have hA : ∀ q : Nat, s.heap.size ≤ q → A q := fun q h => by rw [← hAe]; exact Or.inr h
  have hS : va_S A s.heap s.heap [] := va_S.rf
  have hP : va_P (dC, dI) classes (WS_M_consolidate cI cL cZ h0 a_currency a_sort a_closing a_average a_held a_sum a_told a_left a_step a_outside a_item v_thrown v_companies v_accounts v_done v_items v_currency v_sort v_closing v_average v_held v_sum v_told v_left v_step v_outside v_item) s.heap := hP
  have hl := lv_entry ([.ref h0]) (n := 3) (Nat.le_of_ble_eq_true rfl)
  rw [lg_entry_eq]
  generalize (lg_sl ([.ref h0]) ++ List.replicate (3 - (lg_sl ([.ref h0])).length) Slot.unset).toArray = ls at hl ⊢
  have hl : lv_has ls 3 [(0, .ref h0)] := hl
  unfold wp_M_consolidate at hw
  refine (show ∀ (H : Heap) (locs : List Loc), va_P (dC, dI) classes (WS_M_consolidate cI cL cZ h0 a_currency a_sort a_closing a_average a_held a_sum a_told a_left a_step a_outside a_item v_thrown v_companies v_accounts v_done v_items v_currency v_sort v_closing v_average v_held v_sum v_told v_left v_step v_outside v_item) H → va_S A s.heap H locs → W p l e (headSpec ws_M_consolidate rm_M_consolidate).room s m ([.ref h0] : List Value).toArray below meth c H locs 0 0 (MQ below (QC_M_consolidate dC dI cI cL cZ A h0 a_currency a_sort a_closing a_average a_held a_sum a_told a_left a_step a_outside a_item v_thrown v_companies v_accounts v_done v_items v_currency v_sort v_closing v_average v_held v_sum v_told v_left v_step v_outside v_item post) ([.ref h0] : List Value).toArray s 0 0 A) (F0 m 0 ls []) from ?_) _ _ hP hS
  intro H locs hP hS
  refine lv_aload_n hx hb d_M_consolidate_0 rfl (lv_at hl 0 rfl) ?_
  refine lv_iconst (v := 0) hx hb d_M_consolidate_1 (by decide) ?_
  refine va_put (D := (dC, dI)) (ci := 3) (v := .int 0) (ty := .int) (C := R_M) (T := F_M) (N := 16) hx hb hts (kx_in in_M) t_M t_M_ok n_M hown hK hP hD hS 0 rfl rfl 0 (by decide) (hts _ (kx_w iw_475)) (fun _ h9 => h9) rfl (by decide +kernel) rfl rfl (Nat.le_of_ble_eq_true rfl) d_M_consolidate_2 (fun H locs hP hD hS => ?_)
  have hP : va_P (dC, dI) classes (WS_M_consolidate cI cL cZ h0 a_currency a_sort a_closing a_average a_held a_sum a_told a_left a_step a_outside a_item 0 v_companies v_accounts v_done v_items v_currency v_sort v_closing v_average v_held v_sum v_told v_left v_step v_outside v_item) H := hP
  have hD : va_D A (WS_M_consolidate cI cL cZ h0 a_currency a_sort a_closing a_average a_held a_sum a_told a_left a_step a_outside a_item 0 v_companies v_accounts v_done v_items v_currency v_sort v_closing v_average v_held v_sum v_told v_left v_step v_outside v_item) := hD
  refine lv_iconst (v := 0) hx hb d_M_consolidate_5 (by decide) ?_
  refine lv_istore_n (lv' := [(1, .int 0), (0, .ref h0)]) hx hb d_M_consolidate_6 rfl hl (by decide) rfl (fun ls hl => ?_)
  have hl := lv_sub hl [1, 0] rfl
  obtain ⟨I7, μ7, hi7, hs7⟩ := hw
  have L7 : ∀ (n : Nat) (l1_7 : Int32) (v_thrown_7 : Int32) (H : Heap) (locs : List Loc) (ls : Array Slot), μ7 l1_7 v_thrown_7 < n → I7 l1_7 v_thrown_7 → lv_has ls 3 [(0, .ref h0), (1, .int l1_7)] → va_P (dC, dI) classes (WS_M_consolidate cI cL cZ h0 a_currency a_sort a_closing a_average a_held a_sum a_told a_left a_step a_outside a_item v_thrown_7 v_companies v_accounts v_done v_items v_currency v_sort v_closing v_average v_held v_sum v_told v_left v_step v_outside v_item) H → va_D A (WS_M_consolidate cI cL cZ h0 a_currency a_sort a_closing a_average a_held a_sum a_told a_left a_step a_outside a_item v_thrown_7 v_companies v_accounts v_done v_items v_currency v_sort v_closing v_average v_held v_sum v_told v_left v_step v_outside v_item) → va_S A s.heap H locs → W p l e (headSpec ws_M_consolidate rm_M_consolidate).room s m ([.ref h0] : List Value).toArray below meth c H locs 0 0 (MQ below (QC_M_consolidate dC dI cI cL cZ A h0 a_currency a_sort a_closing a_average a_held a_sum a_told a_left a_step a_outside a_item v_thrown v_companies v_accounts v_done v_items v_currency v_sort v_closing v_average v_held v_sum v_told v_left v_step v_outside v_item post) ([.ref h0] : List Value).toArray s 0 0 A) (F0 m 7 ls []) := by
    intro n
    induction n with
    | zero => intro l1_7 v_thrown_7 H locs ls hn; exact absurd hn (Nat.not_lt_zero _)
    | succ n ih7 =>
      intro l1_7 v_thrown_7 H locs ls hn7 hI hl hP hD hS
      have hw := hs7 l1_7 v_thrown_7 hI
      refine lv_iload_n hx hb d_M_consolidate_7 rfl (lv_at hl 1 rfl) ?_
      refine lv_aload_n hx hb d_M_consolidate_8 rfl (lv_at hl 0 rfl) ?_
      refine va_get (D := (dC, dI)) (ci := 3) (v := .int v_companies) (C := R_M) (T := F_M) (N := 16) hx hb hts (kx_in in_M) hown hK hP 0 rfl rfl 1 (by decide) (hts _ (kx_w iw_476)) (fun _ h9 => h9) rfl d_M_consolidate_9 ?_
      refine lv_icmp_ge (tgt := 41) hx hb d_M_consolidate_12 rfl (fun hc => ?_) (fun hc => ?_)
      ·
        have hw := hw.1 hc
        refine lv_iconst (v := 0) hx hb d_M_consolidate_41 (by decide) ?_
        refine lv_istore_n (lv' := [(1, .int 0), (0, .ref h0)]) hx hb d_M_consolidate_42 rfl hl (by decide) rfl (fun ls hl => ?_)
        have hl := lv_sub hl [1, 0] rfl
        obtain ⟨I43, μ43, hi43, hs43⟩ := hw
        have L43 : ∀ (n : Nat) (l1_43 : Int32) (H : Heap) (locs : List Loc) (ls : Array Slot), μ43 l1_43 < n → I43 l1_43 → lv_has ls 3 [(0, .ref h0), (1, .int l1_43)] → va_P (dC, dI) classes (WS_M_consolidate cI cL cZ h0 a_currency a_sort a_closing a_average a_held a_sum a_told a_left a_step a_outside a_item v_thrown_7 v_companies v_accounts v_done v_items v_currency v_sort v_closing v_average v_held v_sum v_told v_left v_step v_outside v_item) H → va_D A (WS_M_consolidate cI cL cZ h0 a_currency a_sort a_closing a_average a_held a_sum a_told a_left a_step a_outside a_item v_thrown_7 v_companies v_accounts v_done v_items v_currency v_sort v_closing v_average v_held v_sum v_told v_left v_step v_outside v_item) → va_S A s.heap H locs → W p l e (headSpec ws_M_consolidate rm_M_consolidate).room s m ([.ref h0] : List Value).toArray below meth c H locs 0 0 (MQ below (QC_M_consolidate dC dI cI cL cZ A h0 a_currency a_sort a_closing a_average a_held a_sum a_told a_left a_step a_outside a_item v_thrown v_companies v_accounts v_done v_items v_currency v_sort v_closing v_average v_held v_sum v_told v_left v_step v_outside v_item post) ([.ref h0] : List Value).toArray s 0 0 A) (F0 m 43 ls []) := by
          intro n
          induction n with
          | zero => intro l1_43 H locs ls hn; exact absurd hn (Nat.not_lt_zero _)
          | succ n ih43 =>
            intro l1_43 H locs ls hn43 hI hl hP hD hS
            have hw := hs43 l1_43 hI
            refine lv_iload_n hx hb d_M_consolidate_43 rfl (lv_at hl 1 rfl) ?_
            refine lv_iconst (v := 4) hx hb d_M_consolidate_44 (by decide) ?_
            refine lv_icmp_ge (tgt := 102) hx hb d_M_consolidate_45 rfl (fun hc => ?_) (fun hc => ?_)
            ·
              have hw := hw.1 hc
              refine lv_aload_n hx hb d_M_consolidate_102 rfl (lv_at hl 0 rfl) ?_
              refine kx_calli (ws' := fun u103 => (WS_M_consolidate cI cL cZ h0 a_currency a_sort a_closing a_average a_held a_sum a_told a_left a_step a_outside a_item v_thrown_7 v_companies v_accounts v_done v_items v_currency v_sort v_closing v_average v_held v_sum v_told v_left v_step v_outside v_item)) (va_runV (As := []) (rest := []) ⟨hx, hb, hml, hown, hts⟩ (c_M_reserve l dC dI cI cL cZ h0 a_currency a_sort a_closing a_average a_held a_sum a_told a_left a_step a_outside a_item v_thrown_7 v_companies v_accounts v_done v_items v_sort H.size  hw) ⟨(callB_of 0 hts (kx_good iw_539) rfl rfl rfl (hts _ (kx_w iw_4)) (hts _ (kx_w iw_536)) (by decide +kernel) ⟨Nat.le_of_ble_eq_true rfl, Nat.le_of_ble_eq_true rfl⟩), (hts _ (kx_w iw_538)), (hts _ (kx_w sl_M_reserve))⟩ (kx_preV hN hK hP hD [0, 2] (by decide) rfl 0 rfl rfl) rfl rfl hl.1 rfl (lv_room (Nat.le_of_ble_eq_true rfl)) d_M_consolidate_103 ⟨Nat.le_of_ble_eq_true rfl, Nat.le_of_ble_eq_true rfl⟩) hP hD hS hA [0, 2] [1, 3, 4, 5, 6, 7, 8, 9, 10, 11] rfl rfl (by decide) (by decide) [10, 0, 11, 1, 2, 3, 4, 5, 6, 7, 8, 9] (by decide) (fun _ => rfl) (fun r103 u103 H locs hw hP hD hS => ?_)
              have hP : va_P (dC, dI) classes (WS_M_consolidate cI cL cZ h0 a_currency a_sort a_closing a_average a_held a_sum a_told a_left a_step a_outside a_item v_thrown_7 v_companies v_accounts v_done v_items v_currency v_sort v_closing v_average v_held v_sum v_told v_left v_step v_outside v_item) H := hP
              have hD : va_D A (WS_M_consolidate cI cL cZ h0 a_currency a_sort a_closing a_average a_held a_sum a_told a_left a_step a_outside a_item v_thrown_7 v_companies v_accounts v_done v_items v_currency v_sort v_closing v_average v_held v_sum v_told v_left v_step v_outside v_item) := hD
              refine lv_istore_n (lv' := [(1, .int r103), (0, .ref h0)]) hx hb d_M_consolidate_106 rfl hl (by decide) rfl (fun ls hl => ?_)
              refine lv_iload_n hx hb d_M_consolidate_107 rfl (lv_at hl 0 rfl) ?_
              refine lv_if_ge (tgt := 115) hx hb d_M_consolidate_108 rfl (fun hc => ?_) (fun hc => ?_)
              ·
                have hw := hw.1 hc
                refine lv_aload_n hx hb d_M_consolidate_115 rfl (lv_at hl 1 rfl) ?_
                refine lv_iconst (v := 1) hx hb d_M_consolidate_116 (by decide) ?_
                refine va_put (D := (dC, dI)) (ci := 3) (v := .int 1) (ty := .boolean) (C := R_M) (T := F_M) (N := 16) hx hb hts (kx_in in_M) t_M t_M_ok n_M hown hK hP hD hS 0 rfl rfl 10 (by decide) (hts _ (kx_w iw_485)) (fun _ h9 => h9) rfl (by decide +kernel) (by decide) rfl (Nat.le_of_ble_eq_true rfl) d_M_consolidate_117 (fun H locs hP hD hS => ?_)
                have hP : va_P (dC, dI) classes (WS_M_consolidate cI cL cZ h0 a_currency a_sort a_closing a_average a_held a_sum a_told a_left a_step a_outside a_item v_thrown_7 v_companies v_accounts 1 v_items v_currency v_sort v_closing v_average v_held v_sum v_told v_left v_step v_outside v_item) H := hP
                have hD : va_D A (WS_M_consolidate cI cL cZ h0 a_currency a_sort a_closing a_average a_held a_sum a_told a_left a_step a_outside a_item v_thrown_7 v_companies v_accounts 1 v_items v_currency v_sort v_closing v_average v_held v_sum v_told v_left v_step v_outside v_item) := hD
                refine lv_iconst (v := 0) hx hb d_M_consolidate_120 (by decide) ?_
                refine lv_istore_n (lv' := [(2, .int 0), (1, .int r103), (0, .ref h0)]) hx hb d_M_consolidate_121 rfl hl (by decide) rfl (fun ls hl => ?_)
                have hl := lv_sub hl [2, 1, 0] rfl
                obtain ⟨I122, μ122, hi122, hs122⟩ := hw
                have L122 : ∀ (n : Nat) (l2_122 : Int32) (v_left_122 : (Nat → Int64)) (H : Heap) (locs : List Loc) (ls : Array Slot), μ122 l2_122 v_left_122 < n → I122 l2_122 v_left_122 → lv_has ls 3 [(0, .ref h0), (1, .int r103), (2, .int l2_122)] → va_P (dC, dI) classes (WS_M_consolidate cI cL cZ h0 a_currency a_sort a_closing a_average a_held a_sum a_told a_left a_step a_outside a_item v_thrown_7 v_companies v_accounts 1 v_items v_currency v_sort v_closing v_average v_held v_sum v_told v_left_122 v_step v_outside v_item) H → va_D A (WS_M_consolidate cI cL cZ h0 a_currency a_sort a_closing a_average a_held a_sum a_told a_left a_step a_outside a_item v_thrown_7 v_companies v_accounts 1 v_items v_currency v_sort v_closing v_average v_held v_sum v_told v_left_122 v_step v_outside v_item) → va_S A s.heap H locs → W p l e (headSpec ws_M_consolidate rm_M_consolidate).room s m ([.ref h0] : List Value).toArray below meth c H locs 0 0 (MQ below (QC_M_consolidate dC dI cI cL cZ A h0 a_currency a_sort a_closing a_average a_held a_sum a_told a_left a_step a_outside a_item v_thrown v_companies v_accounts v_done v_items v_currency v_sort v_closing v_average v_held v_sum v_told v_left v_step v_outside v_item post) ([.ref h0] : List Value).toArray s 0 0 A) (F0 m 122 ls []) := by
                  intro n
                  induction n with
                  | zero => intro l2_122 v_left_122 H locs ls hn; exact absurd hn (Nat.not_lt_zero _)
                  | succ n ih122 =>
                    intro l2_122 v_left_122 H locs ls hn122 hI hl hP hD hS
                    have hw := hs122 l2_122 v_left_122 hI
                    refine lv_iload_n hx hb d_M_consolidate_122 rfl (lv_at hl 2 rfl) ?_
                    refine lv_sipush (v := 1872) hx hb d_M_consolidate_123 (by decide) ?_
                    refine lv_icmp_ge (tgt := 142) hx hb d_M_consolidate_126 rfl (fun hc => ?_) (fun hc => ?_)
                    ·
                      have hw := hw.1 hc
                      refine lv_iconst (v := 0) hx hb d_M_consolidate_142 (by decide) ?_
                      refine lv_istore_n (lv' := [(2, .int 0), (0, .ref h0), (1, .int r103)]) hx hb d_M_consolidate_143 rfl hl (by decide) rfl (fun ls hl => ?_)
                      have hl := lv_sub hl [1, 2, 0] rfl
                      obtain ⟨I144, μ144, hi144, hs144⟩ := hw
                      have L144 : ∀ (n : Nat) (l2_144 : Int32) (v_left_144 : (Nat → Int64)) (v_outside_144 : (Nat → Int64)) (H : Heap) (locs : List Loc) (ls : Array Slot), μ144 l2_144 v_left_144 v_outside_144 < n → I144 l2_144 v_left_144 v_outside_144 → lv_has ls 3 [(0, .ref h0), (1, .int r103), (2, .int l2_144)] → va_P (dC, dI) classes (WS_M_consolidate cI cL cZ h0 a_currency a_sort a_closing a_average a_held a_sum a_told a_left a_step a_outside a_item v_thrown_7 v_companies v_accounts 1 v_items v_currency v_sort v_closing v_average v_held v_sum v_told v_left_144 v_step v_outside_144 v_item) H → va_D A (WS_M_consolidate cI cL cZ h0 a_currency a_sort a_closing a_average a_held a_sum a_told a_left a_step a_outside a_item v_thrown_7 v_companies v_accounts 1 v_items v_currency v_sort v_closing v_average v_held v_sum v_told v_left_144 v_step v_outside_144 v_item) → va_S A s.heap H locs → W p l e (headSpec ws_M_consolidate rm_M_consolidate).room s m ([.ref h0] : List Value).toArray below meth c H locs 0 0 (MQ below (QC_M_consolidate dC dI cI cL cZ A h0 a_currency a_sort a_closing a_average a_held a_sum a_told a_left a_step a_outside a_item v_thrown v_companies v_accounts v_done v_items v_currency v_sort v_closing v_average v_held v_sum v_told v_left v_step v_outside v_item post) ([.ref h0] : List Value).toArray s 0 0 A) (F0 m 144 ls []) := by
                        intro n
                        induction n with
                        | zero => intro l2_144 v_left_144 v_outside_144 H locs ls hn; exact absurd hn (Nat.not_lt_zero _)
                        | succ n ih144 =>
                          intro l2_144 v_left_144 v_outside_144 H locs ls hn144 hI hl hP hD hS
                          have hw := hs144 l2_144 v_left_144 v_outside_144 hI
                          refine lv_iload_n hx hb d_M_consolidate_144 rfl (lv_at hl 2 rfl) ?_
                          refine lv_aload_n hx hb d_M_consolidate_145 rfl (lv_at hl 0 rfl) ?_
                          refine va_get (D := (dC, dI)) (ci := 3) (v := .int v_companies) (C := R_M) (T := F_M) (N := 16) hx hb hts (kx_in in_M) hown hK hP 0 rfl rfl 1 (by decide) (hts _ (kx_w iw_476)) (fun _ h9 => h9) rfl d_M_consolidate_146 ?_
                          refine lv_icmp_ge (tgt := 179) hx hb d_M_consolidate_149 rfl (fun hc => ?_) (fun hc => ?_)
                          ·
                            have hw := hw.1 hc
                            refine lv_aload_n hx hb d_M_consolidate_179 rfl (lv_at hl 0 rfl) ?_
                            refine lv_iconst (v := 0) hx hb d_M_consolidate_180 (by decide) ?_
                            refine kx_callv (ws' := fun u181 => (WS_M_consolidate cI cL cZ h0 a_currency a_sort a_closing a_average a_held a_sum a_told a_left a_step a_outside a_item v_thrown_7 v_companies v_accounts 1 v_items v_currency v_sort v_closing v_average v_held v_sum v_told v_left_144 u181 v_outside_144 v_item)) (va_runV (As := [.int 0]) (rest := []) ⟨hx, hb, hml, hown, hts⟩ (c_M_mark l dC dI cI cL cZ h0 a_currency a_sort a_closing a_average a_held a_sum a_told a_left a_step a_outside a_item v_thrown_7 v_companies v_accounts 1 v_items v_left_144 v_step H.size 0 hw) ⟨(callB_of 1 hts (kx_good iw_632) rfl rfl rfl (hts _ (kx_w iw_4)) (hts _ (kx_w iw_629)) (by decide +kernel) ⟨Nat.le_of_ble_eq_true rfl, Nat.le_of_ble_eq_true rfl⟩), (hts _ (kx_w iw_631)), (hts _ (kx_w sl_M_mark))⟩ (kx_preV hN hK hP hD [0, 8, 9] (by decide) rfl 0 rfl rfl) rfl rfl hl.1 rfl (lv_room (Nat.le_of_ble_eq_true rfl)) d_M_consolidate_181 ⟨Nat.le_of_ble_eq_true rfl, Nat.le_of_ble_eq_true rfl⟩) hP hD hS hA [0, 8, 9] [1, 2, 3, 4, 5, 6, 7, 10, 11] rfl rfl (by decide) (by decide) [9, 0, 1, 2, 3, 4, 5, 6, 10, 11, 7, 8] (by decide) (fun _ => rfl) (fun u181 H locs hw hP hD hS => ?_)
                            have hP : va_P (dC, dI) classes (WS_M_consolidate cI cL cZ h0 a_currency a_sort a_closing a_average a_held a_sum a_told a_left a_step a_outside a_item v_thrown_7 v_companies v_accounts 1 v_items v_currency v_sort v_closing v_average v_held v_sum v_told v_left_144 u181 v_outside_144 v_item) H := hP
                            have hD : va_D A (WS_M_consolidate cI cL cZ h0 a_currency a_sort a_closing a_average a_held a_sum a_told a_left a_step a_outside a_item v_thrown_7 v_companies v_accounts 1 v_items v_currency v_sort v_closing v_average v_held v_sum v_told v_left_144 u181 v_outside_144 v_item) := hD
                            refine lv_aload_n hx hb d_M_consolidate_184 rfl (lv_at hl 0 rfl) ?_
                            refine lv_iconst (v := 0) hx hb d_M_consolidate_185 (by decide) ?_
                            refine va_put (D := (dC, dI)) (ci := 3) (v := .int 0) (ty := .int) (C := R_M) (T := F_M) (N := 16) hx hb hts (kx_in in_M) t_M t_M_ok n_M hown hK hP hD hS 0 rfl rfl 14 (by decide) (hts _ (kx_w iw_489)) (fun _ h9 => h9) rfl (by decide +kernel) rfl rfl (Nat.le_of_ble_eq_true rfl) d_M_consolidate_186 (fun H locs hP hD hS => ?_)
                            have hP : va_P (dC, dI) classes (WS_M_consolidate cI cL cZ h0 a_currency a_sort a_closing a_average a_held a_sum a_told a_left a_step a_outside a_item v_thrown_7 v_companies v_accounts 1 0 v_currency v_sort v_closing v_average v_held v_sum v_told v_left_144 u181 v_outside_144 v_item) H := hP
                            have hD : va_D A (WS_M_consolidate cI cL cZ h0 a_currency a_sort a_closing a_average a_held a_sum a_told a_left a_step a_outside a_item v_thrown_7 v_companies v_accounts 1 0 v_currency v_sort v_closing v_average v_held v_sum v_told v_left_144 u181 v_outside_144 v_item) := hD
                            refine lv_aload_n hx hb d_M_consolidate_189 rfl (lv_at hl 0 rfl) ?_
                            refine kx_callv (ws' := fun u190 => (WS_M_consolidate cI cL cZ h0 a_currency a_sort a_closing a_average a_held a_sum a_told a_left a_step a_outside a_item v_thrown_7 v_companies v_accounts 1 u190.1 v_currency v_sort v_closing v_average v_held v_sum v_told u190.2.1 u181 v_outside_144 u190.2.2)) (va_runV (As := []) (rest := []) ⟨hx, hb, hml, hown, hts⟩ (c_M_eliminate l dC dI cI cL cZ h0 a_currency a_sort a_closing a_average a_held a_sum a_told a_left a_step a_outside a_item v_thrown_7 v_companies v_accounts 1 0 v_held v_left_144 v_item H.size  hw) ⟨(callB_of 0 hts (kx_good iw_636) rfl rfl rfl (hts _ (kx_w iw_4)) (hts _ (kx_w iw_633)) (by decide +kernel) ⟨Nat.le_of_ble_eq_true rfl, Nat.le_of_ble_eq_true rfl⟩), (hts _ (kx_w iw_635)), (hts _ (kx_w sl_M_eliminate))⟩ (kx_preV hN hK hP hD [0, 5, 8, 11] (by decide) rfl 0 rfl rfl) rfl rfl hl.1 rfl (lv_room (Nat.le_of_ble_eq_true rfl)) d_M_consolidate_190 ⟨Nat.le_of_ble_eq_true rfl, Nat.le_of_ble_eq_true rfl⟩) hP hD hS hA [0, 5, 8, 11] [1, 2, 3, 4, 6, 7, 9, 10] rfl rfl (by decide) (by decide) [8, 0, 1, 2, 3, 9, 4, 5, 10, 6, 7, 11] (by decide) (fun _ => rfl) (fun u190 H locs hw hP hD hS => ?_)
                            have hP : va_P (dC, dI) classes (WS_M_consolidate cI cL cZ h0 a_currency a_sort a_closing a_average a_held a_sum a_told a_left a_step a_outside a_item v_thrown_7 v_companies v_accounts 1 u190.1 v_currency v_sort v_closing v_average v_held v_sum v_told u190.2.1 u181 v_outside_144 u190.2.2) H := hP
                            have hD : va_D A (WS_M_consolidate cI cL cZ h0 a_currency a_sort a_closing a_average a_held a_sum a_told a_left a_step a_outside a_item v_thrown_7 v_companies v_accounts 1 u190.1 v_currency v_sort v_closing v_average v_held v_sum v_told u190.2.1 u181 v_outside_144 u190.2.2) := hD
                            refine lv_aload_n hx hb d_M_consolidate_193 rfl (lv_at hl 0 rfl) ?_
                            refine lv_iconst (v := 1) hx hb d_M_consolidate_194 (by decide) ?_
                            refine kx_callv (ws' := fun u195 => (WS_M_consolidate cI cL cZ h0 a_currency a_sort a_closing a_average a_held a_sum a_told a_left a_step a_outside a_item v_thrown_7 v_companies v_accounts 1 u190.1 v_currency v_sort v_closing v_average v_held v_sum v_told u190.2.1 u195 v_outside_144 u190.2.2)) (va_runV (As := [.int 1]) (rest := []) ⟨hx, hb, hml, hown, hts⟩ (c_M_mark l dC dI cI cL cZ h0 a_currency a_sort a_closing a_average a_held a_sum a_told a_left a_step a_outside a_item v_thrown_7 v_companies v_accounts 1 u190.1 u190.2.1 u181 H.size 1 hw) ⟨(callB_of 1 hts (kx_good iw_632) rfl rfl rfl (hts _ (kx_w iw_4)) (hts _ (kx_w iw_629)) (by decide +kernel) ⟨Nat.le_of_ble_eq_true rfl, Nat.le_of_ble_eq_true rfl⟩), (hts _ (kx_w iw_631)), (hts _ (kx_w sl_M_mark))⟩ (kx_preV hN hK hP hD [0, 8, 9] (by decide) rfl 0 rfl rfl) rfl rfl hl.1 rfl (lv_room (Nat.le_of_ble_eq_true rfl)) d_M_consolidate_195 ⟨Nat.le_of_ble_eq_true rfl, Nat.le_of_ble_eq_true rfl⟩) hP hD hS hA [0, 8, 9] [1, 2, 3, 4, 5, 6, 7, 10, 11] rfl rfl (by decide) (by decide) [9, 0, 1, 2, 3, 4, 5, 6, 10, 11, 7, 8] (by decide) (fun _ => rfl) (fun u195 H locs hw hP hD hS => ?_)
                            have hP : va_P (dC, dI) classes (WS_M_consolidate cI cL cZ h0 a_currency a_sort a_closing a_average a_held a_sum a_told a_left a_step a_outside a_item v_thrown_7 v_companies v_accounts 1 u190.1 v_currency v_sort v_closing v_average v_held v_sum v_told u190.2.1 u195 v_outside_144 u190.2.2) H := hP
                            have hD : va_D A (WS_M_consolidate cI cL cZ h0 a_currency a_sort a_closing a_average a_held a_sum a_told a_left a_step a_outside a_item v_thrown_7 v_companies v_accounts 1 u190.1 v_currency v_sort v_closing v_average v_held v_sum v_told u190.2.1 u195 v_outside_144 u190.2.2) := hD
                            refine lv_iconst (v := 1) hx hb d_M_consolidate_198 (by decide) ?_
                            refine lv_istore_n (lv' := [(2, .int 1), (0, .ref h0), (1, .int r103)]) hx hb d_M_consolidate_199 rfl hl (by decide) rfl (fun ls hl => ?_)
                            have hl := lv_sub hl [1, 2, 0] rfl
                            obtain ⟨I200, μ200, hi200, hs200⟩ := hw
                            have L200 : ∀ (n : Nat) (l2_200 : Int32) (v_thrown_200 : Int32) (v_left_200 : (Nat → Int64)) (v_outside_200 : (Nat → Int64)) (H : Heap) (locs : List Loc) (ls : Array Slot), μ200 l2_200 v_thrown_200 v_left_200 v_outside_200 < n → I200 l2_200 v_thrown_200 v_left_200 v_outside_200 → lv_has ls 3 [(0, .ref h0), (1, .int r103), (2, .int l2_200)] → va_P (dC, dI) classes (WS_M_consolidate cI cL cZ h0 a_currency a_sort a_closing a_average a_held a_sum a_told a_left a_step a_outside a_item v_thrown_200 v_companies v_accounts 1 u190.1 v_currency v_sort v_closing v_average v_held v_sum v_told v_left_200 u195 v_outside_200 u190.2.2) H → va_D A (WS_M_consolidate cI cL cZ h0 a_currency a_sort a_closing a_average a_held a_sum a_told a_left a_step a_outside a_item v_thrown_200 v_companies v_accounts 1 u190.1 v_currency v_sort v_closing v_average v_held v_sum v_told v_left_200 u195 v_outside_200 u190.2.2) → va_S A s.heap H locs → W p l e (headSpec ws_M_consolidate rm_M_consolidate).room s m ([.ref h0] : List Value).toArray below meth c H locs 0 0 (MQ below (QC_M_consolidate dC dI cI cL cZ A h0 a_currency a_sort a_closing a_average a_held a_sum a_told a_left a_step a_outside a_item v_thrown v_companies v_accounts v_done v_items v_currency v_sort v_closing v_average v_held v_sum v_told v_left v_step v_outside v_item post) ([.ref h0] : List Value).toArray s 0 0 A) (F0 m 200 ls []) := by
                              intro n
                              induction n with
                              | zero => intro l2_200 v_thrown_200 v_left_200 v_outside_200 H locs ls hn; exact absurd hn (Nat.not_lt_zero _)
                              | succ n ih200 =>
                                intro l2_200 v_thrown_200 v_left_200 v_outside_200 H locs ls hn200 hI hl hP hD hS
                                have hw := hs200 l2_200 v_thrown_200 v_left_200 v_outside_200 hI
                                refine lv_iload_n hx hb d_M_consolidate_200 rfl (lv_at hl 2 rfl) ?_
                                refine lv_aload_n hx hb d_M_consolidate_201 rfl (lv_at hl 0 rfl) ?_
                                refine va_get (D := (dC, dI)) (ci := 3) (v := .int v_companies) (C := R_M) (T := F_M) (N := 16) hx hb hts (kx_in in_M) hown hK hP 0 rfl rfl 1 (by decide) (hts _ (kx_w iw_476)) (fun _ h9 => h9) rfl d_M_consolidate_202 ?_
                                refine lv_icmp_ge (tgt := 228) hx hb d_M_consolidate_205 rfl (fun hc => ?_) (fun hc => ?_)
                                ·
                                  have hw := hw.1 hc
                                  refine lv_aload_n hx hb d_M_consolidate_228 rfl (lv_at hl 0 rfl) ?_
                                  refine lv_iconst (v := 2) hx hb d_M_consolidate_229 (by decide) ?_
                                  refine kx_callv (ws' := fun u230 => (WS_M_consolidate cI cL cZ h0 a_currency a_sort a_closing a_average a_held a_sum a_told a_left a_step a_outside a_item v_thrown_200 v_companies v_accounts 1 u190.1 v_currency v_sort v_closing v_average v_held v_sum v_told v_left_200 u230 v_outside_200 u190.2.2)) (va_runV (As := [.int 2]) (rest := []) ⟨hx, hb, hml, hown, hts⟩ (c_M_mark l dC dI cI cL cZ h0 a_currency a_sort a_closing a_average a_held a_sum a_told a_left a_step a_outside a_item v_thrown_200 v_companies v_accounts 1 u190.1 v_left_200 u195 H.size 2 hw) ⟨(callB_of 1 hts (kx_good iw_632) rfl rfl rfl (hts _ (kx_w iw_4)) (hts _ (kx_w iw_629)) (by decide +kernel) ⟨Nat.le_of_ble_eq_true rfl, Nat.le_of_ble_eq_true rfl⟩), (hts _ (kx_w iw_631)), (hts _ (kx_w sl_M_mark))⟩ (kx_preV hN hK hP hD [0, 8, 9] (by decide) rfl 0 rfl rfl) rfl rfl hl.1 rfl (lv_room (Nat.le_of_ble_eq_true rfl)) d_M_consolidate_230 ⟨Nat.le_of_ble_eq_true rfl, Nat.le_of_ble_eq_true rfl⟩) hP hD hS hA [0, 8, 9] [1, 2, 3, 4, 5, 6, 7, 10, 11] rfl rfl (by decide) (by decide) [9, 0, 1, 2, 3, 4, 5, 6, 10, 11, 7, 8] (by decide) (fun _ => rfl) (fun u230 H locs hw hP hD hS => ?_)
                                  have hP : va_P (dC, dI) classes (WS_M_consolidate cI cL cZ h0 a_currency a_sort a_closing a_average a_held a_sum a_told a_left a_step a_outside a_item v_thrown_200 v_companies v_accounts 1 u190.1 v_currency v_sort v_closing v_average v_held v_sum v_told v_left_200 u230 v_outside_200 u190.2.2) H := hP
                                  have hD : va_D A (WS_M_consolidate cI cL cZ h0 a_currency a_sort a_closing a_average a_held a_sum a_told a_left a_step a_outside a_item v_thrown_200 v_companies v_accounts 1 u190.1 v_currency v_sort v_closing v_average v_held v_sum v_told v_left_200 u230 v_outside_200 u190.2.2) := hD
                                  refine lv_iconst (v := 0) hx hb d_M_consolidate_233 (by decide) ?_
                                  exact W.iret (v := 0) hx hb hr (fun t ht hW => ⟨⟨0, (v_thrown_200, 1, u190.1, v_left_200, u230, v_outside_200, u190.2.2), rfl, hw, ⟨by rw [ht]; exact hP, hD⟩⟩, hS.F ht⟩) hS.2.2 d_M_consolidate_234
                                ·
                                  have hw := hw.2 hc
                                  refine lv_aload_n hx hb d_M_consolidate_208 rfl (lv_at hl 0 rfl) ?_
                                  refine lv_iload_n hx hb d_M_consolidate_209 rfl (lv_at hl 2 rfl) ?_
                                  refine kx_calli (ws' := fun u210 => (WS_M_consolidate cI cL cZ h0 a_currency a_sort a_closing a_average a_held a_sum a_told a_left a_step a_outside a_item v_thrown_200 v_companies v_accounts 1 u190.1 v_currency v_sort v_closing v_average v_held v_sum v_told v_left_200 u195 v_outside_200 u190.2.2)) (va_runV (As := [.int l2_200]) (rest := []) ⟨hx, hb, hml, hown, hts⟩ (c_M_isControlled l dC dI cI cL cZ h0 a_currency a_sort a_closing a_average a_held a_sum a_told a_left a_step a_outside a_item v_thrown_200 v_companies v_accounts 1 u190.1 v_held H.size l2_200 hw) ⟨(callB_of 1 hts (kx_good iw_598) rfl rfl rfl (hts _ (kx_w iw_4)) (hts _ (kx_w iw_595)) (by decide +kernel) ⟨Nat.le_of_ble_eq_true rfl, Nat.le_of_ble_eq_true rfl⟩), (hts _ (kx_w iw_597)), (hts _ (kx_w sl_M_isControlled))⟩ (kx_preV hN hK hP hD [0, 5] (by decide) rfl 0 rfl rfl) rfl rfl hl.1 rfl (lv_room (Nat.le_of_ble_eq_true rfl)) d_M_consolidate_210 ⟨Nat.le_of_ble_eq_true rfl, Nat.le_of_ble_eq_true rfl⟩) hP hD hS hA [0, 5] [1, 2, 3, 4, 6, 7, 8, 9, 10, 11] rfl rfl (by decide) (by decide) [10, 0, 1, 2, 3, 11, 4, 5, 6, 7, 8, 9] (by decide) (fun _ => rfl) (fun r210 u210 H locs hw hP hD hS => ?_)
                                  have hP : va_P (dC, dI) classes (WS_M_consolidate cI cL cZ h0 a_currency a_sort a_closing a_average a_held a_sum a_told a_left a_step a_outside a_item v_thrown_200 v_companies v_accounts 1 u190.1 v_currency v_sort v_closing v_average v_held v_sum v_told v_left_200 u195 v_outside_200 u190.2.2) H := hP
                                  have hD : va_D A (WS_M_consolidate cI cL cZ h0 a_currency a_sort a_closing a_average a_held a_sum a_told a_left a_step a_outside a_item v_thrown_200 v_companies v_accounts 1 u190.1 v_currency v_sort v_closing v_average v_held v_sum v_told v_left_200 u195 v_outside_200 u190.2.2) := hD
                                  refine lv_if_eq (tgt := 222) hx hb d_M_consolidate_213 rfl (fun hc => ?_) (fun hc => ?_)
                                  ·
                                    have hw := hw.1 hc
                                    refine lv_iinc (v := (l2_200 + 1)) (lv' := [(2, .int (l2_200 + 1)), (0, .ref h0), (1, .int r103)]) hx hb d_M_consolidate_222 hl (k := 2) rfl rfl (by decide) rfl (fun ls hl => ?_)
                                    refine lv_goto (tgt := 200) hx hb d_M_consolidate_225 rfl ?_
                                    have hl := lv_sub hl [1, 2, 0] rfl
                                    exact ih200 (l2_200 + 1) v_thrown_200 v_left_200 v_outside_200 _ _ _ (Nat.lt_of_lt_of_le hw.2 (Nat.le_of_lt_succ hn200)) hw.1 hl hP hD hS
                                  ·
                                    have hw := hw.2 hc
                                    refine lv_aload_n hx hb d_M_consolidate_216 rfl (lv_at hl 0 rfl) ?_
                                    refine lv_iload_n hx hb d_M_consolidate_217 rfl (lv_at hl 2 rfl) ?_
                                    refine lv_iload_n hx hb d_M_consolidate_218 rfl (lv_at hl 1 rfl) ?_
                                    refine kx_callv (ws' := fun u219 => (WS_M_consolidate cI cL cZ h0 a_currency a_sort a_closing a_average a_held a_sum a_told a_left a_step a_outside a_item u219.1 v_companies v_accounts 1 u190.1 v_currency v_sort v_closing v_average v_held v_sum v_told u219.2.1 u195 u219.2.2 u190.2.2)) (va_runV (As := [.int l2_200, .int r103]) (rest := []) ⟨hx, hb, hml, hown, hts⟩ (c_M_share l dC dI cI cL cZ h0 a_currency a_sort a_closing a_average a_held a_sum a_told a_left a_step a_outside a_item v_thrown_200 v_companies v_accounts 1 u190.1 v_sort v_held v_left_200 u195 v_outside_200 H.size l2_200 r103 hw) ⟨(callB_of 2 hts (kx_good iw_644) rfl rfl rfl (hts _ (kx_w iw_4)) (hts _ (kx_w iw_641)) (by decide +kernel) ⟨Nat.le_of_ble_eq_true rfl, Nat.le_of_ble_eq_true rfl⟩), (hts _ (kx_w iw_643)), (hts _ (kx_w sl_M_share))⟩ (kx_preV hN hK hP hD [0, 2, 5, 8, 9, 10] (by decide) rfl 0 rfl rfl) rfl rfl hl.1 rfl (lv_room (Nat.le_of_ble_eq_true rfl)) d_M_consolidate_219 ⟨Nat.le_of_ble_eq_true rfl, Nat.le_of_ble_eq_true rfl⟩) hP hD hS hA [0, 2, 5, 8, 9, 10] [1, 3, 4, 6, 7, 11] rfl rfl (by decide) (by decide) [6, 0, 7, 1, 2, 8, 3, 4, 9, 10, 11, 5] (by decide) (fun _ => rfl) (fun u219 H locs hw hP hD hS => ?_)
                                    have hP : va_P (dC, dI) classes (WS_M_consolidate cI cL cZ h0 a_currency a_sort a_closing a_average a_held a_sum a_told a_left a_step a_outside a_item u219.1 v_companies v_accounts 1 u190.1 v_currency v_sort v_closing v_average v_held v_sum v_told u219.2.1 u195 u219.2.2 u190.2.2) H := hP
                                    have hD : va_D A (WS_M_consolidate cI cL cZ h0 a_currency a_sort a_closing a_average a_held a_sum a_told a_left a_step a_outside a_item u219.1 v_companies v_accounts 1 u190.1 v_currency v_sort v_closing v_average v_held v_sum v_told u219.2.1 u195 u219.2.2 u190.2.2) := hD
                                    refine lv_iinc (v := (l2_200 + 1)) (lv' := [(2, .int (l2_200 + 1)), (0, .ref h0), (1, .int r103)]) hx hb d_M_consolidate_222 hl (k := 2) rfl rfl (by decide) rfl (fun ls hl => ?_)
                                    refine lv_goto (tgt := 200) hx hb d_M_consolidate_225 rfl ?_
                                    have hl := lv_sub hl [1, 2, 0] rfl
                                    exact ih200 (l2_200 + 1) u219.1 u219.2.1 u219.2.2 _ _ _ (Nat.lt_of_lt_of_le hw.2 (Nat.le_of_lt_succ hn200)) hw.1 hl hP hD hS
                            exact L200 _ 1 v_thrown_7 u190.2.1 v_outside_144 _ _ _ (Nat.lt_succ_self _) hi200 hl hP hD hS
                          ·
                            have hw := hw.2 hc
                            refine lv_aload_n hx hb d_M_consolidate_152 rfl (lv_at hl 0 rfl) ?_
                            refine va_get (D := (dC, dI)) (ci := 3) (v := .ref a_outside) (C := R_M) (T := F_M) (N := 16) hx hb hts (kx_in in_M) hown hK hP 0 rfl rfl 13 (by decide) (hts _ (kx_w iw_488)) (fun _ h9 => h9) rfl d_M_consolidate_153 ?_
                            refine lv_iload_n hx hb d_M_consolidate_156 rfl (lv_at hl 2 rfl) ?_
                            refine lv_lconst (v := 0) hx hb d_M_consolidate_157 (by decide) ?_
                            obtain ⟨hi, hw⟩ := hw
                            refine va_last hx hb hK hP hD hS 10 1 rfl rfl hi d_M_consolidate_158 (fun H locs hP hD hS => ?_)
                            have hP : va_P (dC, dI) classes (WS_M_consolidate cI cL cZ h0 a_currency a_sort a_closing a_average a_held a_sum a_told a_left a_step a_outside a_item v_thrown_7 v_companies v_accounts 1 v_items v_currency v_sort v_closing v_average v_held v_sum v_told v_left_144 v_step (vp_updL v_outside_144 l2_144.toNatClampNeg 0) v_item) H := hP
                            have hD : va_D A (WS_M_consolidate cI cL cZ h0 a_currency a_sort a_closing a_average a_held a_sum a_told a_left a_step a_outside a_item v_thrown_7 v_companies v_accounts 1 v_items v_currency v_sort v_closing v_average v_held v_sum v_told v_left_144 v_step (vp_updL v_outside_144 l2_144.toNatClampNeg 0) v_item) := hD
                            refine lv_aload_n hx hb d_M_consolidate_159 rfl (lv_at hl 0 rfl) ?_
                            refine lv_iload_n hx hb d_M_consolidate_160 rfl (lv_at hl 2 rfl) ?_
                            refine kx_calli (ws' := fun u161 => (WS_M_consolidate cI cL cZ h0 a_currency a_sort a_closing a_average a_held a_sum a_told a_left a_step a_outside a_item v_thrown_7 v_companies v_accounts 1 v_items v_currency v_sort v_closing v_average v_held v_sum v_told v_left_144 v_step (vp_updL v_outside_144 l2_144.toNatClampNeg 0) v_item)) (va_runV (As := [.int l2_144]) (rest := []) ⟨hx, hb, hml, hown, hts⟩ (c_M_isControlled l dC dI cI cL cZ h0 a_currency a_sort a_closing a_average a_held a_sum a_told a_left a_step a_outside a_item v_thrown_7 v_companies v_accounts 1 v_items v_held H.size l2_144 hw) ⟨(callB_of 1 hts (kx_good iw_598) rfl rfl rfl (hts _ (kx_w iw_4)) (hts _ (kx_w iw_595)) (by decide +kernel) ⟨Nat.le_of_ble_eq_true rfl, Nat.le_of_ble_eq_true rfl⟩), (hts _ (kx_w iw_597)), (hts _ (kx_w sl_M_isControlled))⟩ (kx_preV hN hK hP hD [0, 5] (by decide) rfl 0 rfl rfl) rfl rfl hl.1 rfl (lv_room (Nat.le_of_ble_eq_true rfl)) d_M_consolidate_161 ⟨Nat.le_of_ble_eq_true rfl, Nat.le_of_ble_eq_true rfl⟩) hP hD hS hA [0, 5] [1, 2, 3, 4, 6, 7, 8, 9, 10, 11] rfl rfl (by decide) (by decide) [10, 0, 1, 2, 3, 11, 4, 5, 6, 7, 8, 9] (by decide) (fun _ => rfl) (fun r161 u161 H locs hw hP hD hS => ?_)
                            have hP : va_P (dC, dI) classes (WS_M_consolidate cI cL cZ h0 a_currency a_sort a_closing a_average a_held a_sum a_told a_left a_step a_outside a_item v_thrown_7 v_companies v_accounts 1 v_items v_currency v_sort v_closing v_average v_held v_sum v_told v_left_144 v_step (vp_updL v_outside_144 l2_144.toNatClampNeg 0) v_item) H := hP
                            have hD : va_D A (WS_M_consolidate cI cL cZ h0 a_currency a_sort a_closing a_average a_held a_sum a_told a_left a_step a_outside a_item v_thrown_7 v_companies v_accounts 1 v_items v_currency v_sort v_closing v_average v_held v_sum v_told v_left_144 v_step (vp_updL v_outside_144 l2_144.toNatClampNeg 0) v_item) := hD
                            refine lv_if_eq (tgt := 173) hx hb d_M_consolidate_164 rfl (fun hc => ?_) (fun hc => ?_)
                            ·
                              have hw := hw.1 hc
                              refine lv_iinc (v := (l2_144 + 1)) (lv' := [(2, .int (l2_144 + 1)), (0, .ref h0), (1, .int r103)]) hx hb d_M_consolidate_173 hl (k := 2) rfl rfl (by decide) rfl (fun ls hl => ?_)
                              refine lv_goto (tgt := 144) hx hb d_M_consolidate_176 rfl ?_
                              have hl := lv_sub hl [1, 2, 0] rfl
                              exact ih144 (l2_144 + 1) v_left_144 (vp_updL v_outside_144 l2_144.toNatClampNeg 0) _ _ _ (Nat.lt_of_lt_of_le hw.2 (Nat.le_of_lt_succ hn144)) hw.1 hl hP hD hS
                            ·
                              have hw := hw.2 hc
                              refine lv_aload_n hx hb d_M_consolidate_167 rfl (lv_at hl 0 rfl) ?_
                              refine lv_iload_n hx hb d_M_consolidate_168 rfl (lv_at hl 2 rfl) ?_
                              refine lv_iload_n hx hb d_M_consolidate_169 rfl (lv_at hl 1 rfl) ?_
                              refine kx_callv (ws' := fun u170 => (WS_M_consolidate cI cL cZ h0 a_currency a_sort a_closing a_average a_held a_sum a_told a_left a_step a_outside a_item v_thrown_7 v_companies v_accounts 1 v_items v_currency v_sort v_closing v_average v_held v_sum v_told u170 v_step (vp_updL v_outside_144 l2_144.toNatClampNeg 0) v_item)) (va_runV (As := [.int l2_144, .int r103]) (rest := []) ⟨hx, hb, hml, hown, hts⟩ (c_M_translate l dC dI cI cL cZ h0 a_currency a_sort a_closing a_average a_held a_sum a_told a_left a_step a_outside a_item v_thrown_7 v_companies v_accounts 1 v_items v_currency v_sort v_closing v_average v_sum v_told v_left_144 H.size l2_144 r103 hw) ⟨(callB_of 2 hts (kx_good iw_619) rfl rfl rfl (hts _ (kx_w iw_4)) (hts _ (kx_w iw_616)) (by decide +kernel) ⟨Nat.le_of_ble_eq_true rfl, Nat.le_of_ble_eq_true rfl⟩), (hts _ (kx_w iw_618)), (hts _ (kx_w sl_M_translate))⟩ (kx_preV hN hK hP hD [0, 1, 2, 3, 4, 6, 7, 8] (by decide) rfl 0 rfl rfl) rfl rfl hl.1 rfl (lv_room (Nat.le_of_ble_eq_true rfl)) d_M_consolidate_170 ⟨Nat.le_of_ble_eq_true rfl, Nat.le_of_ble_eq_true rfl⟩) hP hD hS hA [0, 1, 2, 3, 4, 6, 7, 8] [5, 9, 10, 11] rfl rfl (by decide) (by decide) [4, 5, 6, 7, 8, 0, 9, 10, 11, 1, 2, 3] (by decide) (fun _ => rfl) (fun u170 H locs hw hP hD hS => ?_)
                              have hP : va_P (dC, dI) classes (WS_M_consolidate cI cL cZ h0 a_currency a_sort a_closing a_average a_held a_sum a_told a_left a_step a_outside a_item v_thrown_7 v_companies v_accounts 1 v_items v_currency v_sort v_closing v_average v_held v_sum v_told u170 v_step (vp_updL v_outside_144 l2_144.toNatClampNeg 0) v_item) H := hP
                              have hD : va_D A (WS_M_consolidate cI cL cZ h0 a_currency a_sort a_closing a_average a_held a_sum a_told a_left a_step a_outside a_item v_thrown_7 v_companies v_accounts 1 v_items v_currency v_sort v_closing v_average v_held v_sum v_told u170 v_step (vp_updL v_outside_144 l2_144.toNatClampNeg 0) v_item) := hD
                              refine lv_iinc (v := (l2_144 + 1)) (lv' := [(2, .int (l2_144 + 1)), (0, .ref h0), (1, .int r103)]) hx hb d_M_consolidate_173 hl (k := 2) rfl rfl (by decide) rfl (fun ls hl => ?_)
                              refine lv_goto (tgt := 144) hx hb d_M_consolidate_176 rfl ?_
                              have hl := lv_sub hl [1, 2, 0] rfl
                              exact ih144 (l2_144 + 1) u170 (vp_updL v_outside_144 l2_144.toNatClampNeg 0) _ _ _ (Nat.lt_of_lt_of_le hw.2 (Nat.le_of_lt_succ hn144)) hw.1 hl hP hD hS
                      exact L144 _ 0 v_left_122 v_outside _ _ _ (Nat.lt_succ_self _) hi144 hl hP hD hS
                    ·
                      have hw := hw.2 hc
                      refine lv_aload_n hx hb d_M_consolidate_129 rfl (lv_at hl 0 rfl) ?_
                      refine va_get (D := (dC, dI)) (ci := 3) (v := .ref a_left) (C := R_M) (T := F_M) (N := 16) hx hb hts (kx_in in_M) hown hK hP 0 rfl rfl 11 (by decide) (hts _ (kx_w iw_486)) (fun _ h9 => h9) rfl d_M_consolidate_130 ?_
                      refine lv_iload_n hx hb d_M_consolidate_133 rfl (lv_at hl 2 rfl) ?_
                      refine lv_lconst (v := 0) hx hb d_M_consolidate_134 (by decide) ?_
                      obtain ⟨hi, hw⟩ := hw
                      refine va_last hx hb hK hP hD hS 8 1 rfl rfl hi d_M_consolidate_135 (fun H locs hP hD hS => ?_)
                      have hP : va_P (dC, dI) classes (WS_M_consolidate cI cL cZ h0 a_currency a_sort a_closing a_average a_held a_sum a_told a_left a_step a_outside a_item v_thrown_7 v_companies v_accounts 1 v_items v_currency v_sort v_closing v_average v_held v_sum v_told (vp_updL v_left_122 l2_122.toNatClampNeg 0) v_step v_outside v_item) H := hP
                      have hD : va_D A (WS_M_consolidate cI cL cZ h0 a_currency a_sort a_closing a_average a_held a_sum a_told a_left a_step a_outside a_item v_thrown_7 v_companies v_accounts 1 v_items v_currency v_sort v_closing v_average v_held v_sum v_told (vp_updL v_left_122 l2_122.toNatClampNeg 0) v_step v_outside v_item) := hD
                      refine lv_iinc (v := (l2_122 + 1)) (lv' := [(2, .int (l2_122 + 1)), (0, .ref h0), (1, .int r103)]) hx hb d_M_consolidate_136 hl (k := 2) rfl rfl (by decide) rfl (fun ls hl => ?_)
                      refine lv_goto (tgt := 122) hx hb d_M_consolidate_139 rfl ?_
                      have hl := lv_sub hl [1, 2, 0] rfl
                      exact ih122 (l2_122 + 1) (vp_updL v_left_122 l2_122.toNatClampNeg 0) _ _ _ (Nat.lt_of_lt_of_le hw.2 (Nat.le_of_lt_succ hn122)) hw.1 hl hP hD hS
                exact L122 _ 0 v_left _ _ _ (Nat.lt_succ_self _) hi122 hl hP hD hS
              ·
                have hw := hw.2 hc
                refine lv_sipush (v := (-200)) hx hb d_M_consolidate_111 (by decide) ?_
                exact W.iret (v := (-200)) hx hb hr (fun t ht hW => ⟨⟨(-200), (v_thrown_7, v_done, v_items, v_left, v_step, v_outside, v_item), rfl, hw, ⟨by rw [ht]; exact hP, hD⟩⟩, hS.F ht⟩) hS.2.2 d_M_consolidate_114
            ·
              have hw := hw.2 hc
              refine lv_iconst (v := 0) hx hb d_M_consolidate_48 (by decide) ?_
              refine lv_istore_n (lv' := [(2, .int 0), (0, .ref h0), (1, .int l1_43)]) hx hb d_M_consolidate_49 rfl hl (by decide) rfl (fun ls hl => ?_)
              have hl := lv_sub hl [1, 2, 0] rfl
              obtain ⟨I50, μ50, hi50, hs50⟩ := hw
              have L50 : ∀ (n : Nat) (l2_50 : Int32) (H : Heap) (locs : List Loc) (ls : Array Slot), μ50 l2_50 < n → I50 l2_50 → lv_has ls 3 [(0, .ref h0), (1, .int l1_43), (2, .int l2_50)] → va_P (dC, dI) classes (WS_M_consolidate cI cL cZ h0 a_currency a_sort a_closing a_average a_held a_sum a_told a_left a_step a_outside a_item v_thrown_7 v_companies v_accounts v_done v_items v_currency v_sort v_closing v_average v_held v_sum v_told v_left v_step v_outside v_item) H → va_D A (WS_M_consolidate cI cL cZ h0 a_currency a_sort a_closing a_average a_held a_sum a_told a_left a_step a_outside a_item v_thrown_7 v_companies v_accounts v_done v_items v_currency v_sort v_closing v_average v_held v_sum v_told v_left v_step v_outside v_item) → va_S A s.heap H locs → W p l e (headSpec ws_M_consolidate rm_M_consolidate).room s m ([.ref h0] : List Value).toArray below meth c H locs 0 0 (MQ below (QC_M_consolidate dC dI cI cL cZ A h0 a_currency a_sort a_closing a_average a_held a_sum a_told a_left a_step a_outside a_item v_thrown v_companies v_accounts v_done v_items v_currency v_sort v_closing v_average v_held v_sum v_told v_left v_step v_outside v_item post) ([.ref h0] : List Value).toArray s 0 0 A) (F0 m 50 ls []) := by
                intro n
                induction n with
                | zero => intro l2_50 H locs ls hn; exact absurd hn (Nat.not_lt_zero _)
                | succ n ih50 =>
                  intro l2_50 H locs ls hn50 hI hl hP hD hS
                  have hw := hs50 l2_50 hI
                  refine lv_iload_n hx hb d_M_consolidate_50 rfl (lv_at hl 2 rfl) ?_
                  refine lv_aload_n hx hb d_M_consolidate_51 rfl (lv_at hl 0 rfl) ?_
                  refine va_get (D := (dC, dI)) (ci := 3) (v := .int v_companies) (C := R_M) (T := F_M) (N := 16) hx hb hts (kx_in in_M) hown hK hP 0 rfl rfl 1 (by decide) (hts _ (kx_w iw_476)) (fun _ h9 => h9) rfl d_M_consolidate_52 ?_
                  refine lv_icmp_ge (tgt := 96) hx hb d_M_consolidate_55 rfl (fun hc => ?_) (fun hc => ?_)
                  ·
                    have hw := hw.1 hc
                    refine lv_iinc (v := (l1_43 + 1)) (lv' := [(1, .int (l1_43 + 1)), (0, .ref h0), (2, .int l2_50)]) hx hb d_M_consolidate_96 hl (k := 1) rfl rfl (by decide) rfl (fun ls hl => ?_)
                    refine lv_goto (tgt := 43) hx hb d_M_consolidate_99 rfl ?_
                    have hl := lv_sub hl [1, 0] rfl
                    exact ih43 (l1_43 + 1) _ _ _ (Nat.lt_of_lt_of_le hw.2 (Nat.le_of_lt_succ hn43)) hw.1 hl hP hD hS
                  ·
                    have hw := hw.2 hc
                    refine lv_aload_n hx hb d_M_consolidate_58 rfl (lv_at hl 0 rfl) ?_
                    refine va_get (D := (dC, dI)) (ci := 3) (v := .ref a_currency) (C := R_M) (T := F_M) (N := 16) hx hb hts (kx_in in_M) hown hK hP 0 rfl rfl 3 (by decide) (hts _ (kx_w iw_478)) (fun _ h9 => h9) rfl d_M_consolidate_59 ?_
                    refine lv_iload_n hx hb d_M_consolidate_62 rfl (lv_at hl 2 rfl) ?_
                    obtain ⟨hi, hw⟩ := hw
                    refine va_iald hx hb hK hP 1 0 rfl rfl hi d_M_consolidate_63 ?_
                    refine lv_iload_n hx hb d_M_consolidate_64 rfl (lv_at hl 1 rfl) ?_
                    refine lv_icmp_ne (tgt := 90) hx hb d_M_consolidate_65 rfl (fun hc => ?_) (fun hc => ?_)
                    ·
                      have hw := hw.1 hc
                      refine lv_iinc (v := (l2_50 + 1)) (lv' := [(2, .int (l2_50 + 1)), (0, .ref h0), (1, .int l1_43)]) hx hb d_M_consolidate_90 hl (k := 2) rfl rfl (by decide) rfl (fun ls hl => ?_)
                      refine lv_goto (tgt := 50) hx hb d_M_consolidate_93 rfl ?_
                      have hl := lv_sub hl [1, 2, 0] rfl
                      exact ih50 (l2_50 + 1) _ _ _ (Nat.lt_of_lt_of_le hw.2 (Nat.le_of_lt_succ hn50)) hw.1 hl hP hD hS
                    ·
                      have hw := hw.2 hc
                      refine lv_aload_n hx hb d_M_consolidate_68 rfl (lv_at hl 0 rfl) ?_
                      refine va_get (D := (dC, dI)) (ci := 3) (v := .ref a_closing) (C := R_M) (T := F_M) (N := 16) hx hb hts (kx_in in_M) hown hK hP 0 rfl rfl 5 (by decide) (hts _ (kx_w iw_480)) (fun _ h9 => h9) rfl d_M_consolidate_69 ?_
                      refine lv_iload_n hx hb d_M_consolidate_72 rfl (lv_at hl 1 rfl) ?_
                      obtain ⟨hi, hw⟩ := hw
                      refine va_iald hx hb hK hP 3 0 rfl rfl hi d_M_consolidate_73 ?_
                      refine lv_if_ne (tgt := 90) hx hb d_M_consolidate_74 rfl (fun hc => ?_) (fun hc => ?_)
                      ·
                        have hw := hw.1 hc
                        refine lv_iinc (v := (l2_50 + 1)) (lv' := [(2, .int (l2_50 + 1)), (0, .ref h0), (1, .int l1_43)]) hx hb d_M_consolidate_90 hl (k := 2) rfl rfl (by decide) rfl (fun ls hl => ?_)
                        refine lv_goto (tgt := 50) hx hb d_M_consolidate_93 rfl ?_
                        have hl := lv_sub hl [1, 2, 0] rfl
                        exact ih50 (l2_50 + 1) _ _ _ (Nat.lt_of_lt_of_le hw.2 (Nat.le_of_lt_succ hn50)) hw.1 hl hP hD hS
                      ·
                        have hw := hw.2 hc
                        refine lv_aload_n hx hb d_M_consolidate_77 rfl (lv_at hl 0 rfl) ?_
                        refine lv_iload_n hx hb d_M_consolidate_78 rfl (lv_at hl 2 rfl) ?_
                        refine kx_calli (ws' := fun u79 => (WS_M_consolidate cI cL cZ h0 a_currency a_sort a_closing a_average a_held a_sum a_told a_left a_step a_outside a_item v_thrown_7 v_companies v_accounts v_done v_items v_currency v_sort v_closing v_average v_held v_sum v_told v_left v_step v_outside v_item)) (va_runV (As := [.int l2_50]) (rest := []) ⟨hx, hb, hml, hown, hts⟩ (c_M_isControlled l dC dI cI cL cZ h0 a_currency a_sort a_closing a_average a_held a_sum a_told a_left a_step a_outside a_item v_thrown_7 v_companies v_accounts v_done v_items v_held H.size l2_50 hw) ⟨(callB_of 1 hts (kx_good iw_598) rfl rfl rfl (hts _ (kx_w iw_4)) (hts _ (kx_w iw_595)) (by decide +kernel) ⟨Nat.le_of_ble_eq_true rfl, Nat.le_of_ble_eq_true rfl⟩), (hts _ (kx_w iw_597)), (hts _ (kx_w sl_M_isControlled))⟩ (kx_preV hN hK hP hD [0, 5] (by decide) rfl 0 rfl rfl) rfl rfl hl.1 rfl (lv_room (Nat.le_of_ble_eq_true rfl)) d_M_consolidate_79 ⟨Nat.le_of_ble_eq_true rfl, Nat.le_of_ble_eq_true rfl⟩) hP hD hS hA [0, 5] [1, 2, 3, 4, 6, 7, 8, 9, 10, 11] rfl rfl (by decide) (by decide) [10, 0, 1, 2, 3, 11, 4, 5, 6, 7, 8, 9] (by decide) (fun _ => rfl) (fun r79 u79 H locs hw hP hD hS => ?_)
                        have hP : va_P (dC, dI) classes (WS_M_consolidate cI cL cZ h0 a_currency a_sort a_closing a_average a_held a_sum a_told a_left a_step a_outside a_item v_thrown_7 v_companies v_accounts v_done v_items v_currency v_sort v_closing v_average v_held v_sum v_told v_left v_step v_outside v_item) H := hP
                        have hD : va_D A (WS_M_consolidate cI cL cZ h0 a_currency a_sort a_closing a_average a_held a_sum a_told a_left a_step a_outside a_item v_thrown_7 v_companies v_accounts v_done v_items v_currency v_sort v_closing v_average v_held v_sum v_told v_left v_step v_outside v_item) := hD
                        refine lv_if_eq (tgt := 90) hx hb d_M_consolidate_82 rfl (fun hc => ?_) (fun hc => ?_)
                        ·
                          have hw := hw.1 hc
                          refine lv_iinc (v := (l2_50 + 1)) (lv' := [(2, .int (l2_50 + 1)), (0, .ref h0), (1, .int l1_43)]) hx hb d_M_consolidate_90 hl (k := 2) rfl rfl (by decide) rfl (fun ls hl => ?_)
                          refine lv_goto (tgt := 50) hx hb d_M_consolidate_93 rfl ?_
                          have hl := lv_sub hl [1, 2, 0] rfl
                          exact ih50 (l2_50 + 1) _ _ _ (Nat.lt_of_lt_of_le hw.2 (Nat.le_of_lt_succ hn50)) hw.1 hl hP hD hS
                        ·
                          have hw := hw.2 hc
                          refine lv_bipush (v := (-100)) hx hb d_M_consolidate_85 (by decide) ?_
                          refine lv_iload_n hx hb d_M_consolidate_87 rfl (lv_at hl 1 rfl) ?_
                          refine lv_isub hx hb d_M_consolidate_88 ?_
                          exact W.iret (v := ((-100) - l1_43)) hx hb hr (fun t ht hW => ⟨⟨((-100) - l1_43), (v_thrown_7, v_done, v_items, v_left, v_step, v_outside, v_item), rfl, hw, ⟨by rw [ht]; exact hP, hD⟩⟩, hS.F ht⟩) hS.2.2 d_M_consolidate_89
              exact L50 _ 0 _ _ _ (Nat.lt_succ_self _) hi50 hl hP hD hS
        exact L43 _ 0 _ _ _ (Nat.lt_succ_self _) hi43 hl hP hD hS
      ·
        have hw := hw.2 hc
        refine lv_aload_n hx hb d_M_consolidate_15 rfl (lv_at hl 0 rfl) ?_
        refine lv_iload_n hx hb d_M_consolidate_16 rfl (lv_at hl 1 rfl) ?_
        refine kx_calli (ws' := fun u17 => (WS_M_consolidate cI cL cZ h0 a_currency a_sort a_closing a_average a_held a_sum a_told a_left a_step a_outside a_item v_thrown_7 v_companies v_accounts v_done v_items v_currency v_sort v_closing v_average v_held v_sum v_told v_left v_step v_outside v_item)) (va_runV (As := [.int l1_7]) (rest := []) ⟨hx, hb, hml, hown, hts⟩ (c_M_isControlled l dC dI cI cL cZ h0 a_currency a_sort a_closing a_average a_held a_sum a_told a_left a_step a_outside a_item v_thrown_7 v_companies v_accounts v_done v_items v_held H.size l1_7 hw) ⟨(callB_of 1 hts (kx_good iw_598) rfl rfl rfl (hts _ (kx_w iw_4)) (hts _ (kx_w iw_595)) (by decide +kernel) ⟨Nat.le_of_ble_eq_true rfl, Nat.le_of_ble_eq_true rfl⟩), (hts _ (kx_w iw_597)), (hts _ (kx_w sl_M_isControlled))⟩ (kx_preV hN hK hP hD [0, 5] (by decide) rfl 0 rfl rfl) rfl rfl hl.1 rfl (lv_room (Nat.le_of_ble_eq_true rfl)) d_M_consolidate_17 ⟨Nat.le_of_ble_eq_true rfl, Nat.le_of_ble_eq_true rfl⟩) hP hD hS hA [0, 5] [1, 2, 3, 4, 6, 7, 8, 9, 10, 11] rfl rfl (by decide) (by decide) [10, 0, 1, 2, 3, 11, 4, 5, 6, 7, 8, 9] (by decide) (fun _ => rfl) (fun r17 u17 H locs hw hP hD hS => ?_)
        have hP : va_P (dC, dI) classes (WS_M_consolidate cI cL cZ h0 a_currency a_sort a_closing a_average a_held a_sum a_told a_left a_step a_outside a_item v_thrown_7 v_companies v_accounts v_done v_items v_currency v_sort v_closing v_average v_held v_sum v_told v_left v_step v_outside v_item) H := hP
        have hD : va_D A (WS_M_consolidate cI cL cZ h0 a_currency a_sort a_closing a_average a_held a_sum a_told a_left a_step a_outside a_item v_thrown_7 v_companies v_accounts v_done v_items v_currency v_sort v_closing v_average v_held v_sum v_told v_left v_step v_outside v_item) := hD
        refine lv_if_eq (tgt := 35) hx hb d_M_consolidate_20 rfl (fun hc => ?_) (fun hc => ?_)
        ·
          have hw := hw.1 hc
          refine lv_iinc (v := (l1_7 + 1)) (lv' := [(1, .int (l1_7 + 1)), (0, .ref h0)]) hx hb d_M_consolidate_35 hl (k := 1) rfl rfl (by decide) rfl (fun ls hl => ?_)
          refine lv_goto (tgt := 7) hx hb d_M_consolidate_38 rfl ?_
          have hl := lv_sub hl [1, 0] rfl
          exact ih7 (l1_7 + 1) v_thrown_7 _ _ _ (Nat.lt_of_lt_of_le hw.2 (Nat.le_of_lt_succ hn7)) hw.1 hl hP hD hS
        ·
          have hw := hw.2 hc
          refine lv_aload_n hx hb d_M_consolidate_23 rfl (lv_at hl 0 rfl) ?_
          refine lv_iload_n hx hb d_M_consolidate_24 rfl (lv_at hl 1 rfl) ?_
          refine kx_calli (ws' := fun u25 => (WS_M_consolidate cI cL cZ h0 a_currency a_sort a_closing a_average a_held a_sum a_told a_left a_step a_outside a_item u25 v_companies v_accounts v_done v_items v_currency v_sort v_closing v_average v_held v_sum v_told v_left v_step v_outside v_item)) (va_runV (As := [.int l1_7]) (rest := []) ⟨hx, hb, hml, hown, hts⟩ (c_M_isBalanced l dC dI cI cL cZ h0 a_currency a_sort a_closing a_average a_held a_sum a_told a_left a_step a_outside a_item v_thrown_7 v_companies v_accounts v_done v_items v_sum H.size l1_7 hw) ⟨(callB_of 1 hts (kx_good iw_590) rfl rfl rfl (hts _ (kx_w iw_4)) (hts _ (kx_w iw_615)) (by decide +kernel) ⟨Nat.le_of_ble_eq_true rfl, Nat.le_of_ble_eq_true rfl⟩), (hts _ (kx_w iw_588)), (hts _ (kx_w iw_589))⟩ (kx_preV hN hK hP hD [0, 6] (by decide) rfl 0 rfl rfl) rfl rfl hl.1 rfl (lv_room (Nat.le_of_ble_eq_true rfl)) d_M_consolidate_25 ⟨Nat.le_of_ble_eq_true rfl, Nat.le_of_ble_eq_true rfl⟩) hP hD hS hA [0, 6] [1, 2, 3, 4, 5, 7, 8, 9, 10, 11] rfl rfl (by decide) (by decide) [10, 0, 1, 2, 3, 4, 11, 5, 6, 7, 8, 9] (by decide) (fun _ => rfl) (fun r25 u25 H locs hw hP hD hS => ?_)
          have hP : va_P (dC, dI) classes (WS_M_consolidate cI cL cZ h0 a_currency a_sort a_closing a_average a_held a_sum a_told a_left a_step a_outside a_item u25 v_companies v_accounts v_done v_items v_currency v_sort v_closing v_average v_held v_sum v_told v_left v_step v_outside v_item) H := hP
          have hD : va_D A (WS_M_consolidate cI cL cZ h0 a_currency a_sort a_closing a_average a_held a_sum a_told a_left a_step a_outside a_item u25 v_companies v_accounts v_done v_items v_currency v_sort v_closing v_average v_held v_sum v_told v_left v_step v_outside v_item) := hD
          refine lv_if_ne (tgt := 35) hx hb d_M_consolidate_28 rfl (fun hc => ?_) (fun hc => ?_)
          ·
            have hw := hw.1 hc
            refine lv_iinc (v := (l1_7 + 1)) (lv' := [(1, .int (l1_7 + 1)), (0, .ref h0)]) hx hb d_M_consolidate_35 hl (k := 1) rfl rfl (by decide) rfl (fun ls hl => ?_)
            refine lv_goto (tgt := 7) hx hb d_M_consolidate_38 rfl ?_
            have hl := lv_sub hl [1, 0] rfl
            exact ih7 (l1_7 + 1) u25 _ _ _ (Nat.lt_of_lt_of_le hw.2 (Nat.le_of_lt_succ hn7)) hw.1 hl hP hD hS
          ·
            have hw := hw.2 hc
            refine lv_iconst (v := (-1)) hx hb d_M_consolidate_31 (by decide) ?_
            refine lv_iload_n hx hb d_M_consolidate_32 rfl (lv_at hl 1 rfl) ?_
            refine lv_isub hx hb d_M_consolidate_33 ?_
            exact W.iret (v := ((-1) - l1_7)) hx hb hr (fun t ht hW => ⟨⟨((-1) - l1_7), (u25, v_done, v_items, v_left, v_step, v_outside, v_item), rfl, hw, ⟨by rw [ht]; exact hP, hD⟩⟩, hS.F ht⟩) hS.2.2 d_M_consolidate_34
  exact L7 _ 0 0 _ _ _ (Nat.lt_succ_self _) hi7 hl hP hD hS
/-! ConsolidationDeskModel.group(I)J -/
abbrev y_M_group : MethodName := ⟨"ConsolidationDeskModel", "group", "(I)J"⟩
theorem d_M_group_0 : decode prog_5_method_31_code 0 = .ok (.aload_n 0, 1) := by decide +kernel
theorem d_M_group_1 : decode prog_5_method_31_code 1 = .ok (.aload_n 0, 1) := by decide +kernel
theorem d_M_group_2 : decode prog_5_method_31_code 2 = .ok (.getfield 119, 3) := by decide +kernel
theorem d_M_group_5 : decode prog_5_method_31_code 5 = .ok (.ifCond .eq 15, 3) := by decide +kernel
theorem d_M_group_8 : decode prog_5_method_31_code 8 = .ok (.aload_n 0, 1) := by decide +kernel
theorem d_M_group_9 : decode prog_5_method_31_code 9 = .ok (.iload_n 1, 1) := by decide +kernel
theorem d_M_group_10 : decode prog_5_method_31_code 10 = .ok (.invokevirtual 68, 3) := by decide +kernel
theorem d_M_group_13 : decode prog_5_method_31_code 13 = .ok (.ifCond .eq 7, 3) := by decide +kernel
theorem d_M_group_16 : decode prog_5_method_31_code 16 = .ok (.iconst 0, 1) := by decide +kernel
theorem d_M_group_17 : decode prog_5_method_31_code 17 = .ok (.goto 4, 3) := by decide +kernel
theorem d_M_group_20 : decode prog_5_method_31_code 20 = .ok (.iconst 1, 1) := by decide +kernel
theorem d_M_group_21 : decode prog_5_method_31_code 21 = .ok (.putfield 49, 3) := by decide +kernel
theorem d_M_group_24 : decode prog_5_method_31_code 24 = .ok (.lconst 0, 1) := by decide +kernel
theorem d_M_group_25 : decode prog_5_method_31_code 25 = .ok (.lstore_n 2, 1) := by decide +kernel
theorem d_M_group_26 : decode prog_5_method_31_code 26 = .ok (.iconst 0, 1) := by decide +kernel
theorem d_M_group_27 : decode prog_5_method_31_code 27 = .ok (.istore 4, 2) := by decide +kernel
theorem d_M_group_29 : decode prog_5_method_31_code 29 = .ok (.iload 4, 2) := by decide +kernel
theorem d_M_group_31 : decode prog_5_method_31_code 31 = .ok (.bipush 12, 2) := by decide +kernel
theorem d_M_group_33 : decode prog_5_method_31_code 33 = .ok (.if_icmp .ge 35, 3) := by decide +kernel
theorem d_M_group_36 : decode prog_5_method_31_code 36 = .ok (.aload_n 0, 1) := by decide +kernel
theorem d_M_group_37 : decode prog_5_method_31_code 37 = .ok (.getfield 49, 3) := by decide +kernel
theorem d_M_group_40 : decode prog_5_method_31_code 40 = .ok (.ifCond .ne 28, 3) := by decide +kernel
theorem d_M_group_43 : decode prog_5_method_31_code 43 = .ok (.lload_n 2, 1) := by decide +kernel
theorem d_M_group_44 : decode prog_5_method_31_code 44 = .ok (.aload_n 0, 1) := by decide +kernel
theorem d_M_group_45 : decode prog_5_method_31_code 45 = .ok (.getfield 35, 3) := by decide +kernel
theorem d_M_group_48 : decode prog_5_method_31_code 48 = .ok (.sipush 288, 3) := by decide +kernel
theorem d_M_group_51 : decode prog_5_method_31_code 51 = .ok (.bipush 12, 2) := by decide +kernel
theorem d_M_group_53 : decode prog_5_method_31_code 53 = .ok (.iload 4, 2) := by decide +kernel
theorem d_M_group_55 : decode prog_5_method_31_code 55 = .ok (.imul, 1) := by decide +kernel
theorem d_M_group_56 : decode prog_5_method_31_code 56 = .ok (.iadd, 1) := by decide +kernel
theorem d_M_group_57 : decode prog_5_method_31_code 57 = .ok (.iload_n 1, 1) := by decide +kernel
theorem d_M_group_58 : decode prog_5_method_31_code 58 = .ok (.iadd, 1) := by decide +kernel
theorem d_M_group_59 : decode prog_5_method_31_code 59 = .ok (.laload, 1) := by decide +kernel
theorem d_M_group_60 : decode prog_5_method_31_code 60 = .ok (.ladd, 1) := by decide +kernel
theorem d_M_group_61 : decode prog_5_method_31_code 61 = .ok (.lstore_n 2, 1) := by decide +kernel
theorem d_M_group_62 : decode prog_5_method_31_code 62 = .ok (.iinc 4 1, 3) := by decide +kernel
theorem d_M_group_65 : decode prog_5_method_31_code 65 = .ok (.goto (-36), 3) := by decide +kernel
theorem d_M_group_68 : decode prog_5_method_31_code 68 = .ok (.lload_n 2, 1) := by decide +kernel
theorem d_M_group_69 : decode prog_5_method_31_code 69 = .ok (.lreturn, 1) := by decide +kernel
abbrev WS_M_group (cI cL cZ : ClassId)  (h0 a_currency a_sort a_closing a_average a_held a_sum a_told a_left a_step a_outside a_item : Nat) (v_thrown : Int32) (v_companies : Int32) (v_accounts : Int32) (v_done : Int32) (v_items : Int32) (v_step : (Nat → Int64)) : va_W := [(h0, .inr (3, [.int v_thrown, .int v_companies, .int v_accounts, .ref a_currency, .ref a_sort, .ref a_closing, .ref a_average, .ref a_held, .ref a_sum, .ref a_told, .int v_done, .ref a_left, .ref a_step, .ref a_outside, .int v_items, .ref a_item])), (a_step, .inl (cL, 432, .inr (.inl v_step)))]
def wp_M_group  (p0 : Int32) (v_thrown : Int32) (v_accounts : Int32) (v_done : Int32) (v_step : (Nat → Int64)) (post : Int64 → Int32 → Prop) : Prop := ((v_done = 0 → (∃ (I29 : Int64 → Int32 → Prop) (μ29 : Int64 → Int32 → Nat), I29 0 0 ∧ ∀ (l2_29 : Int64) (l4_29 : Int32), I29 l2_29 l4_29 → ((12 ≤ l4_29 → post l2_29 1) ∧ (¬ 12 ≤ l4_29 → ((¬ (1 : Int32) = 0 → post l2_29 1) ∧ ((1 : Int32) = 0 → (vp_in ((288 + (12 * l4_29)) + p0) 432 ∧ (∀ x61 : Int64, x61 = (l2_29 + (v_step (Int32.toNatClampNeg ((288 + (12 * l4_29)) + p0)))) → I29 x61 (l4_29 + 1) ∧ μ29 x61 (l4_29 + 1) < μ29 l2_29 l4_29)))))))) ∧ (¬ v_done = 0 → (wp_M_isAccount p0 v_accounts (fun (r10 : Int32) (u10 : Unit) => ((r10 = 0 → (∃ (I29 : Int64 → Int32 → Prop) (μ29 : Int64 → Int32 → Nat), I29 0 0 ∧ ∀ (l2_29 : Int64) (l4_29 : Int32), I29 l2_29 l4_29 → ((12 ≤ l4_29 → post l2_29 1) ∧ (¬ 12 ≤ l4_29 → ((¬ (1 : Int32) = 0 → post l2_29 1) ∧ ((1 : Int32) = 0 → (vp_in ((288 + (12 * l4_29)) + p0) 432 ∧ (∀ x61 : Int64, x61 = (l2_29 + (v_step (Int32.toNatClampNeg ((288 + (12 * l4_29)) + p0)))) → I29 x61 (l4_29 + 1) ∧ μ29 x61 (l4_29 + 1) < μ29 l2_29 l4_29)))))))) ∧ (¬ r10 = 0 → (∃ (I29 : Int64 → Int32 → Prop) (μ29 : Int64 → Int32 → Nat), I29 0 0 ∧ ∀ (l2_29 : Int64) (l4_29 : Int32), I29 l2_29 l4_29 → ((12 ≤ l4_29 → post l2_29 0) ∧ (¬ 12 ≤ l4_29 → ((¬ (0 : Int32) = 0 → post l2_29 0) ∧ ((0 : Int32) = 0 → (vp_in ((288 + (12 * l4_29)) + p0) 432 ∧ (∀ x61 : Int64, x61 = (l2_29 + (v_step (Int32.toNatClampNeg ((288 + (12 * l4_29)) + p0)))) → I29 x61 (l4_29 + 1) ∧ μ29 x61 (l4_29 + 1) < μ29 l2_29 l4_29)))))))))))))
abbrev ws_M_group : List Cond := .code y_M_group prog_5_method_31_code 5 (some .long) :: kxW
abbrev rm_M_group : Room := { frames := 1, cells := 0, slots := 0, locals := 21 }
abbrev QC_M_group (dC : Nat → ClassId) (dI : Nat → Nat → Nat) (cI cL cZ : ClassId) (A : Nat → Prop)  (h0 a_currency a_sort a_closing a_average a_held a_sum a_told a_left a_step a_outside a_item : Nat) (v_thrown : Int32) (v_companies : Int32) (v_accounts : Int32) (v_done : Int32) (v_items : Int32) (v_step : (Nat → Int64)) (post : Int64 → Int32 → Prop) : Array Value → State → Outcome → State → Prop := va_Ql post (fun (u : Int32) t => kx_B (dC, dI) classes A (WS_M_group cI cL cZ h0 a_currency a_sort a_closing a_average a_held a_sum a_told a_left a_step a_outside a_item u v_companies v_accounts v_done v_items v_step) t) A
set_option maxHeartbeats 4000000 in
set_option maxRecDepth 100000 in
theorem c_M_group (l : Launch) (dC : Nat → ClassId) (dI : Nat → Nat → Nat) (cI cL cZ : ClassId)  (h0 a_currency a_sort a_closing a_average a_held a_sum a_told a_left a_step a_outside a_item : Nat) (v_thrown : Int32) (v_companies : Int32) (v_accounts : Int32) (v_done : Int32) (v_items : Int32) (v_step : (Nat → Int64)) (sz : Nat) (p0 : Int32) {post : Int64 → Int32 → Prop} (hw : wp_M_group p0 v_thrown v_accounts v_done v_step post) : Met l y_M_group ws_M_group rm_M_group (kx_Pc (dC, dI) classes (kx_T cI cL cZ) (WS_M_group cI cL cZ h0 a_currency a_sort a_closing a_average a_held a_sum a_told a_left a_step a_outside a_item v_thrown v_companies v_accounts v_done v_items v_step) sz [.ref h0, .int p0]) (QC_M_group dC dI cI cL cZ (va_A (WS_M_group cI cL cZ h0 a_currency a_sort a_closing a_average a_held a_sum a_told a_left a_step a_outside a_item v_thrown v_companies v_accounts v_done v_items v_step) sz) h0 a_currency a_sort a_closing a_average a_held a_sum a_told a_left a_step a_outside a_item v_thrown v_companies v_accounts v_done v_items v_step post) 0 0 (va_A (WS_M_group cI cL cZ h0 a_currency a_sort a_closing a_average a_held a_sum a_told a_left a_step a_outside a_item v_thrown v_companies v_accounts v_done v_items v_step) sz) := by
  refine Met.ofW (cc := prog_5_method_31_code) (maxL := 5) (ret := (some .long)) (by decide) rfl ?_
  intro p e s m args below meth c s₁ B hml hv
  obtain ⟨rfl, hsz, hP, hK, hD0, hN⟩ := hv
  have hx := B.exec
  have hb := B.bytes
  have hr := B.returns
  have hts := atoms_spec (ws := ws_M_group) B.pre
  have hown : s.vm.findClass R_M = some m.cls := findClass_of_methodNamed B.named
  have hlocks := B.notSynchronized
  subst hsz
  have hD := hD0.self (sz := s.heap.size)
  generalize hAe : va_A (WS_M_group cI cL cZ h0 a_currency a_sort a_closing a_average a_held a_sum a_told a_left a_step a_outside a_item v_thrown v_companies v_accounts v_done v_items v_step) s.heap.size = A at hD ⊢
  have hA : ∀ q : Nat, s.heap.size ≤ q → A q := fun q h => by rw [← hAe]; exact Or.inr h
  have hS : va_S A s.heap s.heap [] := va_S.rf
  have hP : va_P (dC, dI) classes (WS_M_group cI cL cZ h0 a_currency a_sort a_closing a_average a_held a_sum a_told a_left a_step a_outside a_item v_thrown v_companies v_accounts v_done v_items v_step) s.heap := hP
  have hl := lv_entry ([.ref h0, .int p0]) (n := 5) (Nat.le_of_ble_eq_true rfl)
  rw [lg_entry_eq]
  generalize (lg_sl ([.ref h0, .int p0]) ++ List.replicate (5 - (lg_sl ([.ref h0, .int p0])).length) Slot.unset).toArray = ls at hl ⊢
  have hl : lv_has ls 5 [(0, .ref h0), (1, .int p0)] := hl
  unfold wp_M_group at hw
  refine (show ∀ (H : Heap) (locs : List Loc), va_P (dC, dI) classes (WS_M_group cI cL cZ h0 a_currency a_sort a_closing a_average a_held a_sum a_told a_left a_step a_outside a_item v_thrown v_companies v_accounts v_done v_items v_step) H → va_S A s.heap H locs → W p l e (headSpec ws_M_group rm_M_group).room s m ([.ref h0, .int p0] : List Value).toArray below meth c H locs 0 0 (MQ below (QC_M_group dC dI cI cL cZ A h0 a_currency a_sort a_closing a_average a_held a_sum a_told a_left a_step a_outside a_item v_thrown v_companies v_accounts v_done v_items v_step post) ([.ref h0, .int p0] : List Value).toArray s 0 0 A) (F0 m 0 ls []) from ?_) _ _ hP hS
  intro H locs hP hS
  refine lv_aload_n hx hb d_M_group_0 rfl (lv_at hl 0 rfl) ?_
  refine lv_aload_n hx hb d_M_group_1 rfl (lv_at hl 0 rfl) ?_
  refine va_get (D := (dC, dI)) (ci := 3) (v := .int v_done) (C := R_M) (T := F_M) (N := 16) hx hb hts (kx_in in_M) hown hK hP 0 rfl rfl 10 (by decide) (hts _ (kx_w iw_485)) (fun _ h9 => h9) rfl d_M_group_2 ?_
  refine lv_if_eq (tgt := 20) hx hb d_M_group_5 rfl (fun hc => ?_) (fun hc => ?_)
  ·
    have hw := hw.1 hc
    refine lv_iconst (v := 1) hx hb d_M_group_20 (by decide) ?_
    refine va_put (D := (dC, dI)) (ci := 3) (v := .int 1) (ty := .int) (C := R_M) (T := F_M) (N := 16) hx hb hts (kx_in in_M) t_M t_M_ok n_M hown hK hP hD hS 0 rfl rfl 0 (by decide) (hts _ (kx_w iw_475)) (fun _ h9 => h9) rfl (by decide +kernel) rfl rfl (Nat.le_of_ble_eq_true rfl) d_M_group_21 (fun H locs hP hD hS => ?_)
    have hP : va_P (dC, dI) classes (WS_M_group cI cL cZ h0 a_currency a_sort a_closing a_average a_held a_sum a_told a_left a_step a_outside a_item 1 v_companies v_accounts v_done v_items v_step) H := hP
    have hD : va_D A (WS_M_group cI cL cZ h0 a_currency a_sort a_closing a_average a_held a_sum a_told a_left a_step a_outside a_item 1 v_companies v_accounts v_done v_items v_step) := hD
    refine lv_lconst (v := 0) hx hb d_M_group_24 (by decide) ?_
    refine lv_lstore_n (lv' := [(2, .long 0), (0, .ref h0), (1, .int p0)]) hx hb d_M_group_25 rfl hl (by decide) rfl (fun ls hl => ?_)
    refine lv_iconst (v := 0) hx hb d_M_group_26 (by decide) ?_
    refine lv_istore (lv' := [(4, .int 0), (2, .long 0), (0, .ref h0), (1, .int p0)]) hx hb d_M_group_27 hl (by decide) rfl (fun ls hl => ?_)
    have hl := lv_sub hl [2, 3, 1, 0] rfl
    obtain ⟨I29, μ29, hi29, hs29⟩ := hw
    have L29 : ∀ (n : Nat) (l2_29 : Int64) (l4_29 : Int32) (H : Heap) (locs : List Loc) (ls : Array Slot), μ29 l2_29 l4_29 < n → I29 l2_29 l4_29 → lv_has ls 5 [(0, .ref h0), (1, .int p0), (2, .long l2_29), (4, .int l4_29)] → va_P (dC, dI) classes (WS_M_group cI cL cZ h0 a_currency a_sort a_closing a_average a_held a_sum a_told a_left a_step a_outside a_item 1 v_companies v_accounts v_done v_items v_step) H → va_D A (WS_M_group cI cL cZ h0 a_currency a_sort a_closing a_average a_held a_sum a_told a_left a_step a_outside a_item 1 v_companies v_accounts v_done v_items v_step) → va_S A s.heap H locs → W p l e (headSpec ws_M_group rm_M_group).room s m ([.ref h0, .int p0] : List Value).toArray below meth c H locs 0 0 (MQ below (QC_M_group dC dI cI cL cZ A h0 a_currency a_sort a_closing a_average a_held a_sum a_told a_left a_step a_outside a_item v_thrown v_companies v_accounts v_done v_items v_step post) ([.ref h0, .int p0] : List Value).toArray s 0 0 A) (F0 m 29 ls []) := by
      intro n
      induction n with
      | zero => intro l2_29 l4_29 H locs ls hn; exact absurd hn (Nat.not_lt_zero _)
      | succ n ih29 =>
        intro l2_29 l4_29 H locs ls hn29 hI hl hP hD hS
        have hw := hs29 l2_29 l4_29 hI
        refine lv_iload hx hb d_M_group_29 (lv_at hl 3 rfl) ?_
        refine lv_bipush (v := 12) hx hb d_M_group_31 (by decide) ?_
        refine lv_icmp_ge (tgt := 68) hx hb d_M_group_33 rfl (fun hc => ?_) (fun hc => ?_)
        ·
          have hw := hw.1 hc
          refine lv_lload_n hx hb d_M_group_68 rfl (lv_at hl 2 rfl) ?_
          exact W.lret (v := l2_29) hx hb hr (fun t ht hW => ⟨⟨l2_29, 1, rfl, hw, ⟨by rw [ht]; exact hP, hD⟩⟩, hS.F ht⟩) hS.2.2 d_M_group_69
        ·
          have hw := hw.2 hc
          refine lv_aload_n hx hb d_M_group_36 rfl (lv_at hl 0 rfl) ?_
          refine va_get (D := (dC, dI)) (ci := 3) (v := .int 1) (C := R_M) (T := F_M) (N := 16) hx hb hts (kx_in in_M) hown hK hP 0 rfl rfl 0 (by decide) (hts _ (kx_w iw_475)) (fun _ h9 => h9) rfl d_M_group_37 ?_
          refine lv_if_ne (tgt := 68) hx hb d_M_group_40 rfl (fun hc => ?_) (fun hc => ?_)
          ·
            have hw := hw.1 hc
            refine lv_lload_n hx hb d_M_group_68 rfl (lv_at hl 2 rfl) ?_
            exact W.lret (v := l2_29) hx hb hr (fun t ht hW => ⟨⟨l2_29, 1, rfl, hw, ⟨by rw [ht]; exact hP, hD⟩⟩, hS.F ht⟩) hS.2.2 d_M_group_69
          ·
            have hw := hw.2 hc
            refine lv_lload_n hx hb d_M_group_43 rfl (lv_at hl 2 rfl) ?_
            refine lv_aload_n hx hb d_M_group_44 rfl (lv_at hl 0 rfl) ?_
            refine va_get (D := (dC, dI)) (ci := 3) (v := .ref a_step) (C := R_M) (T := F_M) (N := 16) hx hb hts (kx_in in_M) hown hK hP 0 rfl rfl 12 (by decide) (hts _ (kx_w iw_487)) (fun _ h9 => h9) rfl d_M_group_45 ?_
            refine lv_sipush (v := 288) hx hb d_M_group_48 (by decide) ?_
            refine lv_bipush (v := 12) hx hb d_M_group_51 (by decide) ?_
            refine lv_iload hx hb d_M_group_53 (lv_at hl 3 rfl) ?_
            refine lv_imul hx hb d_M_group_55 ?_
            refine lv_iadd hx hb d_M_group_56 ?_
            refine lv_iload_n hx hb d_M_group_57 rfl (lv_at hl 1 rfl) ?_
            refine lv_iadd hx hb d_M_group_58 ?_
            obtain ⟨hi, hw⟩ := hw
            refine va_lald hx hb hK hP 1 1 rfl rfl hi d_M_group_59 ?_
            refine lv_ladd hx hb d_M_group_60 ?_
            refine lv_topl (fun x61 e61 => ?_)
            have hw := hw x61 e61
            refine lv_lstore_n (lv' := [(2, .long x61), (0, .ref h0), (1, .int p0), (4, .int l4_29)]) hx hb d_M_group_61 rfl hl (by decide) rfl (fun ls hl => ?_)
            refine lv_iinc (v := (l4_29 + 1)) (lv' := [(4, .int (l4_29 + 1)), (2, .long x61), (0, .ref h0), (1, .int p0)]) hx hb d_M_group_62 hl (k := 3) rfl rfl (by decide) rfl (fun ls hl => ?_)
            refine lv_goto (tgt := 29) hx hb d_M_group_65 rfl ?_
            have hl := lv_sub hl [2, 3, 1, 0] rfl
            exact ih29 x61 (l4_29 + 1) _ _ _ (Nat.lt_of_lt_of_le hw.2 (Nat.le_of_lt_succ hn29)) hw.1 hl hP hD hS
    exact L29 _ 0 0 _ _ _ (Nat.lt_succ_self _) hi29 hl hP hD hS
  ·
    have hw := hw.2 hc
    refine lv_aload_n hx hb d_M_group_8 rfl (lv_at hl 0 rfl) ?_
    refine lv_iload_n hx hb d_M_group_9 rfl (lv_at hl 1 rfl) ?_
    refine kx_calli (ws' := fun u10 => (WS_M_group cI cL cZ h0 a_currency a_sort a_closing a_average a_held a_sum a_told a_left a_step a_outside a_item v_thrown v_companies v_accounts v_done v_items v_step)) (va_runV (As := [.int p0]) (rest := [.ref h0]) ⟨hx, hb, hml, hown, hts⟩ (c_M_isAccount l dC dI cI cL cZ h0 a_currency a_sort a_closing a_average a_held a_sum a_told a_left a_step a_outside a_item v_thrown v_companies v_accounts v_done v_items H.size p0 hw) ⟨(callB_of 1 hts (kx_good iw_564) rfl rfl rfl (hts _ (kx_w iw_4)) (hts _ (kx_w iw_561)) (by decide +kernel) ⟨Nat.le_of_ble_eq_true rfl, Nat.le_of_ble_eq_true rfl⟩), (hts _ (kx_w iw_563)), (hts _ (kx_w sl_M_isAccount))⟩ (kx_preV hN hK hP hD [0] (by decide) rfl 0 rfl rfl) rfl rfl hl.1 rfl (lv_room (Nat.le_of_ble_eq_true rfl)) d_M_group_10 ⟨Nat.le_of_ble_eq_true rfl, Nat.le_of_ble_eq_true rfl⟩) hP hD hS hA [0] [1] rfl rfl (by decide) (by decide) [1, 0] (by decide) (fun _ => rfl) (fun r10 u10 H locs hw hP hD hS => ?_)
    have hP : va_P (dC, dI) classes (WS_M_group cI cL cZ h0 a_currency a_sort a_closing a_average a_held a_sum a_told a_left a_step a_outside a_item v_thrown v_companies v_accounts v_done v_items v_step) H := hP
    have hD : va_D A (WS_M_group cI cL cZ h0 a_currency a_sort a_closing a_average a_held a_sum a_told a_left a_step a_outside a_item v_thrown v_companies v_accounts v_done v_items v_step) := hD
    refine lv_if_eq (tgt := 20) hx hb d_M_group_13 rfl (fun hc => ?_) (fun hc => ?_)
    ·
      have hw := hw.1 hc
      refine lv_iconst (v := 1) hx hb d_M_group_20 (by decide) ?_
      refine va_put (D := (dC, dI)) (ci := 3) (v := .int 1) (ty := .int) (C := R_M) (T := F_M) (N := 16) hx hb hts (kx_in in_M) t_M t_M_ok n_M hown hK hP hD hS 0 rfl rfl 0 (by decide) (hts _ (kx_w iw_475)) (fun _ h9 => h9) rfl (by decide +kernel) rfl rfl (Nat.le_of_ble_eq_true rfl) d_M_group_21 (fun H locs hP hD hS => ?_)
      have hP : va_P (dC, dI) classes (WS_M_group cI cL cZ h0 a_currency a_sort a_closing a_average a_held a_sum a_told a_left a_step a_outside a_item 1 v_companies v_accounts v_done v_items v_step) H := hP
      have hD : va_D A (WS_M_group cI cL cZ h0 a_currency a_sort a_closing a_average a_held a_sum a_told a_left a_step a_outside a_item 1 v_companies v_accounts v_done v_items v_step) := hD
      refine lv_lconst (v := 0) hx hb d_M_group_24 (by decide) ?_
      refine lv_lstore_n (lv' := [(2, .long 0), (0, .ref h0), (1, .int p0)]) hx hb d_M_group_25 rfl hl (by decide) rfl (fun ls hl => ?_)
      refine lv_iconst (v := 0) hx hb d_M_group_26 (by decide) ?_
      refine lv_istore (lv' := [(4, .int 0), (2, .long 0), (0, .ref h0), (1, .int p0)]) hx hb d_M_group_27 hl (by decide) rfl (fun ls hl => ?_)
      have hl := lv_sub hl [2, 3, 1, 0] rfl
      obtain ⟨I29, μ29, hi29, hs29⟩ := hw
      have L29 : ∀ (n : Nat) (l2_29 : Int64) (l4_29 : Int32) (H : Heap) (locs : List Loc) (ls : Array Slot), μ29 l2_29 l4_29 < n → I29 l2_29 l4_29 → lv_has ls 5 [(0, .ref h0), (1, .int p0), (2, .long l2_29), (4, .int l4_29)] → va_P (dC, dI) classes (WS_M_group cI cL cZ h0 a_currency a_sort a_closing a_average a_held a_sum a_told a_left a_step a_outside a_item 1 v_companies v_accounts v_done v_items v_step) H → va_D A (WS_M_group cI cL cZ h0 a_currency a_sort a_closing a_average a_held a_sum a_told a_left a_step a_outside a_item 1 v_companies v_accounts v_done v_items v_step) → va_S A s.heap H locs → W p l e (headSpec ws_M_group rm_M_group).room s m ([.ref h0, .int p0] : List Value).toArray below meth c H locs 0 0 (MQ below (QC_M_group dC dI cI cL cZ A h0 a_currency a_sort a_closing a_average a_held a_sum a_told a_left a_step a_outside a_item v_thrown v_companies v_accounts v_done v_items v_step post) ([.ref h0, .int p0] : List Value).toArray s 0 0 A) (F0 m 29 ls []) := by
        intro n
        induction n with
        | zero => intro l2_29 l4_29 H locs ls hn; exact absurd hn (Nat.not_lt_zero _)
        | succ n ih29 =>
          intro l2_29 l4_29 H locs ls hn29 hI hl hP hD hS
          have hw := hs29 l2_29 l4_29 hI
          refine lv_iload hx hb d_M_group_29 (lv_at hl 3 rfl) ?_
          refine lv_bipush (v := 12) hx hb d_M_group_31 (by decide) ?_
          refine lv_icmp_ge (tgt := 68) hx hb d_M_group_33 rfl (fun hc => ?_) (fun hc => ?_)
          ·
            have hw := hw.1 hc
            refine lv_lload_n hx hb d_M_group_68 rfl (lv_at hl 2 rfl) ?_
            exact W.lret (v := l2_29) hx hb hr (fun t ht hW => ⟨⟨l2_29, 1, rfl, hw, ⟨by rw [ht]; exact hP, hD⟩⟩, hS.F ht⟩) hS.2.2 d_M_group_69
          ·
            have hw := hw.2 hc
            refine lv_aload_n hx hb d_M_group_36 rfl (lv_at hl 0 rfl) ?_
            refine va_get (D := (dC, dI)) (ci := 3) (v := .int 1) (C := R_M) (T := F_M) (N := 16) hx hb hts (kx_in in_M) hown hK hP 0 rfl rfl 0 (by decide) (hts _ (kx_w iw_475)) (fun _ h9 => h9) rfl d_M_group_37 ?_
            refine lv_if_ne (tgt := 68) hx hb d_M_group_40 rfl (fun hc => ?_) (fun hc => ?_)
            ·
              have hw := hw.1 hc
              refine lv_lload_n hx hb d_M_group_68 rfl (lv_at hl 2 rfl) ?_
              exact W.lret (v := l2_29) hx hb hr (fun t ht hW => ⟨⟨l2_29, 1, rfl, hw, ⟨by rw [ht]; exact hP, hD⟩⟩, hS.F ht⟩) hS.2.2 d_M_group_69
            ·
              have hw := hw.2 hc
              refine lv_lload_n hx hb d_M_group_43 rfl (lv_at hl 2 rfl) ?_
              refine lv_aload_n hx hb d_M_group_44 rfl (lv_at hl 0 rfl) ?_
              refine va_get (D := (dC, dI)) (ci := 3) (v := .ref a_step) (C := R_M) (T := F_M) (N := 16) hx hb hts (kx_in in_M) hown hK hP 0 rfl rfl 12 (by decide) (hts _ (kx_w iw_487)) (fun _ h9 => h9) rfl d_M_group_45 ?_
              refine lv_sipush (v := 288) hx hb d_M_group_48 (by decide) ?_
              refine lv_bipush (v := 12) hx hb d_M_group_51 (by decide) ?_
              refine lv_iload hx hb d_M_group_53 (lv_at hl 3 rfl) ?_
              refine lv_imul hx hb d_M_group_55 ?_
              refine lv_iadd hx hb d_M_group_56 ?_
              refine lv_iload_n hx hb d_M_group_57 rfl (lv_at hl 1 rfl) ?_
              refine lv_iadd hx hb d_M_group_58 ?_
              obtain ⟨hi, hw⟩ := hw
              refine va_lald hx hb hK hP 1 1 rfl rfl hi d_M_group_59 ?_
              refine lv_ladd hx hb d_M_group_60 ?_
              refine lv_topl (fun x61 e61 => ?_)
              have hw := hw x61 e61
              refine lv_lstore_n (lv' := [(2, .long x61), (0, .ref h0), (1, .int p0), (4, .int l4_29)]) hx hb d_M_group_61 rfl hl (by decide) rfl (fun ls hl => ?_)
              refine lv_iinc (v := (l4_29 + 1)) (lv' := [(4, .int (l4_29 + 1)), (2, .long x61), (0, .ref h0), (1, .int p0)]) hx hb d_M_group_62 hl (k := 3) rfl rfl (by decide) rfl (fun ls hl => ?_)
              refine lv_goto (tgt := 29) hx hb d_M_group_65 rfl ?_
              have hl := lv_sub hl [2, 3, 1, 0] rfl
              exact ih29 x61 (l4_29 + 1) _ _ _ (Nat.lt_of_lt_of_le hw.2 (Nat.le_of_lt_succ hn29)) hw.1 hl hP hD hS
      exact L29 _ 0 0 _ _ _ (Nat.lt_succ_self _) hi29 hl hP hD hS
    ·
      have hw := hw.2 hc
      refine lv_iconst (v := 0) hx hb d_M_group_16 (by decide) ?_
      refine lv_goto (tgt := 21) hx hb d_M_group_17 rfl ?_
      refine va_put (D := (dC, dI)) (ci := 3) (v := .int 0) (ty := .int) (C := R_M) (T := F_M) (N := 16) hx hb hts (kx_in in_M) t_M t_M_ok n_M hown hK hP hD hS 0 rfl rfl 0 (by decide) (hts _ (kx_w iw_475)) (fun _ h9 => h9) rfl (by decide +kernel) rfl rfl (Nat.le_of_ble_eq_true rfl) d_M_group_21 (fun H locs hP hD hS => ?_)
      have hP : va_P (dC, dI) classes (WS_M_group cI cL cZ h0 a_currency a_sort a_closing a_average a_held a_sum a_told a_left a_step a_outside a_item 0 v_companies v_accounts v_done v_items v_step) H := hP
      have hD : va_D A (WS_M_group cI cL cZ h0 a_currency a_sort a_closing a_average a_held a_sum a_told a_left a_step a_outside a_item 0 v_companies v_accounts v_done v_items v_step) := hD
      refine lv_lconst (v := 0) hx hb d_M_group_24 (by decide) ?_
      refine lv_lstore_n (lv' := [(2, .long 0), (0, .ref h0), (1, .int p0)]) hx hb d_M_group_25 rfl hl (by decide) rfl (fun ls hl => ?_)
      refine lv_iconst (v := 0) hx hb d_M_group_26 (by decide) ?_
      refine lv_istore (lv' := [(4, .int 0), (2, .long 0), (0, .ref h0), (1, .int p0)]) hx hb d_M_group_27 hl (by decide) rfl (fun ls hl => ?_)
      have hl := lv_sub hl [2, 3, 1, 0] rfl
      obtain ⟨I29, μ29, hi29, hs29⟩ := hw
      have L29 : ∀ (n : Nat) (l2_29 : Int64) (l4_29 : Int32) (H : Heap) (locs : List Loc) (ls : Array Slot), μ29 l2_29 l4_29 < n → I29 l2_29 l4_29 → lv_has ls 5 [(0, .ref h0), (1, .int p0), (2, .long l2_29), (4, .int l4_29)] → va_P (dC, dI) classes (WS_M_group cI cL cZ h0 a_currency a_sort a_closing a_average a_held a_sum a_told a_left a_step a_outside a_item 0 v_companies v_accounts v_done v_items v_step) H → va_D A (WS_M_group cI cL cZ h0 a_currency a_sort a_closing a_average a_held a_sum a_told a_left a_step a_outside a_item 0 v_companies v_accounts v_done v_items v_step) → va_S A s.heap H locs → W p l e (headSpec ws_M_group rm_M_group).room s m ([.ref h0, .int p0] : List Value).toArray below meth c H locs 0 0 (MQ below (QC_M_group dC dI cI cL cZ A h0 a_currency a_sort a_closing a_average a_held a_sum a_told a_left a_step a_outside a_item v_thrown v_companies v_accounts v_done v_items v_step post) ([.ref h0, .int p0] : List Value).toArray s 0 0 A) (F0 m 29 ls []) := by
        intro n
        induction n with
        | zero => intro l2_29 l4_29 H locs ls hn; exact absurd hn (Nat.not_lt_zero _)
        | succ n ih29 =>
          intro l2_29 l4_29 H locs ls hn29 hI hl hP hD hS
          have hw := hs29 l2_29 l4_29 hI
          refine lv_iload hx hb d_M_group_29 (lv_at hl 3 rfl) ?_
          refine lv_bipush (v := 12) hx hb d_M_group_31 (by decide) ?_
          refine lv_icmp_ge (tgt := 68) hx hb d_M_group_33 rfl (fun hc => ?_) (fun hc => ?_)
          ·
            have hw := hw.1 hc
            refine lv_lload_n hx hb d_M_group_68 rfl (lv_at hl 2 rfl) ?_
            exact W.lret (v := l2_29) hx hb hr (fun t ht hW => ⟨⟨l2_29, 0, rfl, hw, ⟨by rw [ht]; exact hP, hD⟩⟩, hS.F ht⟩) hS.2.2 d_M_group_69
          ·
            have hw := hw.2 hc
            refine lv_aload_n hx hb d_M_group_36 rfl (lv_at hl 0 rfl) ?_
            refine va_get (D := (dC, dI)) (ci := 3) (v := .int 0) (C := R_M) (T := F_M) (N := 16) hx hb hts (kx_in in_M) hown hK hP 0 rfl rfl 0 (by decide) (hts _ (kx_w iw_475)) (fun _ h9 => h9) rfl d_M_group_37 ?_
            refine lv_if_ne (tgt := 68) hx hb d_M_group_40 rfl (fun hc => ?_) (fun hc => ?_)
            ·
              have hw := hw.1 hc
              refine lv_lload_n hx hb d_M_group_68 rfl (lv_at hl 2 rfl) ?_
              exact W.lret (v := l2_29) hx hb hr (fun t ht hW => ⟨⟨l2_29, 0, rfl, hw, ⟨by rw [ht]; exact hP, hD⟩⟩, hS.F ht⟩) hS.2.2 d_M_group_69
            ·
              have hw := hw.2 hc
              refine lv_lload_n hx hb d_M_group_43 rfl (lv_at hl 2 rfl) ?_
              refine lv_aload_n hx hb d_M_group_44 rfl (lv_at hl 0 rfl) ?_
              refine va_get (D := (dC, dI)) (ci := 3) (v := .ref a_step) (C := R_M) (T := F_M) (N := 16) hx hb hts (kx_in in_M) hown hK hP 0 rfl rfl 12 (by decide) (hts _ (kx_w iw_487)) (fun _ h9 => h9) rfl d_M_group_45 ?_
              refine lv_sipush (v := 288) hx hb d_M_group_48 (by decide) ?_
              refine lv_bipush (v := 12) hx hb d_M_group_51 (by decide) ?_
              refine lv_iload hx hb d_M_group_53 (lv_at hl 3 rfl) ?_
              refine lv_imul hx hb d_M_group_55 ?_
              refine lv_iadd hx hb d_M_group_56 ?_
              refine lv_iload_n hx hb d_M_group_57 rfl (lv_at hl 1 rfl) ?_
              refine lv_iadd hx hb d_M_group_58 ?_
              obtain ⟨hi, hw⟩ := hw
              refine va_lald hx hb hK hP 1 1 rfl rfl hi d_M_group_59 ?_
              refine lv_ladd hx hb d_M_group_60 ?_
              refine lv_topl (fun x61 e61 => ?_)
              have hw := hw x61 e61
              refine lv_lstore_n (lv' := [(2, .long x61), (0, .ref h0), (1, .int p0), (4, .int l4_29)]) hx hb d_M_group_61 rfl hl (by decide) rfl (fun ls hl => ?_)
              refine lv_iinc (v := (l4_29 + 1)) (lv' := [(4, .int (l4_29 + 1)), (2, .long x61), (0, .ref h0), (1, .int p0)]) hx hb d_M_group_62 hl (k := 3) rfl rfl (by decide) rfl (fun ls hl => ?_)
              refine lv_goto (tgt := 29) hx hb d_M_group_65 rfl ?_
              have hl := lv_sub hl [2, 3, 1, 0] rfl
              exact ih29 x61 (l4_29 + 1) _ _ _ (Nat.lt_of_lt_of_le hw.2 (Nat.le_of_lt_succ hn29)) hw.1 hl hP hD hS
      exact L29 _ 0 0 _ _ _ (Nat.lt_succ_self _) hi29 hl hP hD hS
/-! ConsolidationDeskModel.trace(III)J -/
abbrev y_M_trace : MethodName := ⟨"ConsolidationDeskModel", "trace", "(III)J"⟩
theorem d_M_trace_0 : decode prog_5_method_32_code 0 = .ok (.aload_n 0, 1) := by decide +kernel
theorem d_M_trace_1 : decode prog_5_method_32_code 1 = .ok (.aload_n 0, 1) := by decide +kernel
theorem d_M_trace_2 : decode prog_5_method_32_code 2 = .ok (.getfield 119, 3) := by decide +kernel
theorem d_M_trace_5 : decode prog_5_method_32_code 5 = .ok (.ifCond .eq 32, 3) := by decide +kernel
theorem d_M_trace_8 : decode prog_5_method_32_code 8 = .ok (.aload_n 0, 1) := by decide +kernel
theorem d_M_trace_9 : decode prog_5_method_32_code 9 = .ok (.iload_n 1, 1) := by decide +kernel
theorem d_M_trace_10 : decode prog_5_method_32_code 10 = .ok (.invokevirtual 68, 3) := by decide +kernel
theorem d_M_trace_13 : decode prog_5_method_32_code 13 = .ok (.ifCond .eq 24, 3) := by decide +kernel
theorem d_M_trace_16 : decode prog_5_method_32_code 16 = .ok (.aload_n 0, 1) := by decide +kernel
theorem d_M_trace_17 : decode prog_5_method_32_code 17 = .ok (.iload_n 2, 1) := by decide +kernel
theorem d_M_trace_18 : decode prog_5_method_32_code 18 = .ok (.invokevirtual 59, 3) := by decide +kernel
theorem d_M_trace_21 : decode prog_5_method_32_code 21 = .ok (.ifCond .eq 16, 3) := by decide +kernel
theorem d_M_trace_24 : decode prog_5_method_32_code 24 = .ok (.iload_n 3, 1) := by decide +kernel
theorem d_M_trace_25 : decode prog_5_method_32_code 25 = .ok (.ifCond .lt 12, 3) := by decide +kernel
theorem d_M_trace_28 : decode prog_5_method_32_code 28 = .ok (.iload_n 3, 1) := by decide +kernel
theorem d_M_trace_29 : decode prog_5_method_32_code 29 = .ok (.iconst 3, 1) := by decide +kernel
theorem d_M_trace_30 : decode prog_5_method_32_code 30 = .ok (.if_icmp .ge 7, 3) := by decide +kernel
theorem d_M_trace_33 : decode prog_5_method_32_code 33 = .ok (.iconst 0, 1) := by decide +kernel
theorem d_M_trace_34 : decode prog_5_method_32_code 34 = .ok (.goto 4, 3) := by decide +kernel
theorem d_M_trace_37 : decode prog_5_method_32_code 37 = .ok (.iconst 1, 1) := by decide +kernel
theorem d_M_trace_38 : decode prog_5_method_32_code 38 = .ok (.putfield 49, 3) := by decide +kernel
theorem d_M_trace_41 : decode prog_5_method_32_code 41 = .ok (.aload_n 0, 1) := by decide +kernel
theorem d_M_trace_42 : decode prog_5_method_32_code 42 = .ok (.getfield 49, 3) := by decide +kernel
theorem d_M_trace_45 : decode prog_5_method_32_code 45 = .ok (.iconst 1, 1) := by decide +kernel
theorem d_M_trace_46 : decode prog_5_method_32_code 46 = .ok (.if_icmp .ne 7, 3) := by decide +kernel
theorem d_M_trace_49 : decode prog_5_method_32_code 49 = .ok (.lconst 0, 1) := by decide +kernel
theorem d_M_trace_50 : decode prog_5_method_32_code 50 = .ok (.goto 20, 3) := by decide +kernel
theorem d_M_trace_53 : decode prog_5_method_32_code 53 = .ok (.aload_n 0, 1) := by decide +kernel
theorem d_M_trace_54 : decode prog_5_method_32_code 54 = .ok (.getfield 35, 3) := by decide +kernel
theorem d_M_trace_57 : decode prog_5_method_32_code 57 = .ok (.sipush 144, 3) := by decide +kernel
theorem d_M_trace_60 : decode prog_5_method_32_code 60 = .ok (.iload_n 3, 1) := by decide +kernel
theorem d_M_trace_61 : decode prog_5_method_32_code 61 = .ok (.imul, 1) := by decide +kernel
theorem d_M_trace_62 : decode prog_5_method_32_code 62 = .ok (.bipush 12, 2) := by decide +kernel
theorem d_M_trace_64 : decode prog_5_method_32_code 64 = .ok (.iload_n 2, 1) := by decide +kernel
theorem d_M_trace_65 : decode prog_5_method_32_code 65 = .ok (.imul, 1) := by decide +kernel
theorem d_M_trace_66 : decode prog_5_method_32_code 66 = .ok (.iadd, 1) := by decide +kernel
theorem d_M_trace_67 : decode prog_5_method_32_code 67 = .ok (.iload_n 1, 1) := by decide +kernel
theorem d_M_trace_68 : decode prog_5_method_32_code 68 = .ok (.iadd, 1) := by decide +kernel
theorem d_M_trace_69 : decode prog_5_method_32_code 69 = .ok (.laload, 1) := by decide +kernel
theorem d_M_trace_70 : decode prog_5_method_32_code 70 = .ok (.lreturn, 1) := by decide +kernel
abbrev WS_M_trace (cI cL cZ : ClassId)  (h0 a_currency a_sort a_closing a_average a_held a_sum a_told a_left a_step a_outside a_item : Nat) (v_thrown : Int32) (v_companies : Int32) (v_accounts : Int32) (v_done : Int32) (v_items : Int32) (v_step : (Nat → Int64)) : va_W := [(h0, .inr (3, [.int v_thrown, .int v_companies, .int v_accounts, .ref a_currency, .ref a_sort, .ref a_closing, .ref a_average, .ref a_held, .ref a_sum, .ref a_told, .int v_done, .ref a_left, .ref a_step, .ref a_outside, .int v_items, .ref a_item])), (a_step, .inl (cL, 432, .inr (.inl v_step)))]
def wp_M_trace  (p0 : Int32) (p1 : Int32) (p2 : Int32) (v_thrown : Int32) (v_companies : Int32) (v_accounts : Int32) (v_done : Int32) (v_step : (Nat → Int64)) (post : Int64 → Int32 → Prop) : Prop := ((v_done = 0 → ((¬ (1 : Int32) = 1 → (vp_in (((144 * p2) + (12 * p1)) + p0) 432 ∧ post (v_step (Int32.toNatClampNeg (((144 * p2) + (12 * p1)) + p0))) 1)) ∧ ((1 : Int32) = 1 → post 0 1))) ∧ (¬ v_done = 0 → (wp_M_isAccount p0 v_accounts (fun (r10 : Int32) (u10 : Unit) => ((r10 = 0 → ((¬ (1 : Int32) = 1 → (vp_in (((144 * p2) + (12 * p1)) + p0) 432 ∧ post (v_step (Int32.toNatClampNeg (((144 * p2) + (12 * p1)) + p0))) 1)) ∧ ((1 : Int32) = 1 → post 0 1))) ∧ (¬ r10 = 0 → (wp_M_isCompany p1 v_companies (fun (r18 : Int32) (u18 : Unit) => ((r18 = 0 → ((¬ (1 : Int32) = 1 → (vp_in (((144 * p2) + (12 * p1)) + p0) 432 ∧ post (v_step (Int32.toNatClampNeg (((144 * p2) + (12 * p1)) + p0))) 1)) ∧ ((1 : Int32) = 1 → post 0 1))) ∧ (¬ r18 = 0 → ((p2 < 0 → ((¬ (1 : Int32) = 1 → (vp_in (((144 * p2) + (12 * p1)) + p0) 432 ∧ post (v_step (Int32.toNatClampNeg (((144 * p2) + (12 * p1)) + p0))) 1)) ∧ ((1 : Int32) = 1 → post 0 1))) ∧ (¬ p2 < 0 → ((3 ≤ p2 → ((¬ (1 : Int32) = 1 → (vp_in (((144 * p2) + (12 * p1)) + p0) 432 ∧ post (v_step (Int32.toNatClampNeg (((144 * p2) + (12 * p1)) + p0))) 1)) ∧ ((1 : Int32) = 1 → post 0 1))) ∧ (¬ 3 ≤ p2 → ((¬ (0 : Int32) = 1 → (vp_in (((144 * p2) + (12 * p1)) + p0) 432 ∧ post (v_step (Int32.toNatClampNeg (((144 * p2) + (12 * p1)) + p0))) 0)) ∧ ((0 : Int32) = 1 → post 0 0))))))))))))))))
abbrev ws_M_trace : List Cond := .code y_M_trace prog_5_method_32_code 4 (some .long) :: kxW
abbrev rm_M_trace : Room := { frames := 1, cells := 0, slots := 0, locals := 21 }
abbrev QC_M_trace (dC : Nat → ClassId) (dI : Nat → Nat → Nat) (cI cL cZ : ClassId) (A : Nat → Prop)  (h0 a_currency a_sort a_closing a_average a_held a_sum a_told a_left a_step a_outside a_item : Nat) (v_thrown : Int32) (v_companies : Int32) (v_accounts : Int32) (v_done : Int32) (v_items : Int32) (v_step : (Nat → Int64)) (post : Int64 → Int32 → Prop) : Array Value → State → Outcome → State → Prop := va_Ql post (fun (u : Int32) t => kx_B (dC, dI) classes A (WS_M_trace cI cL cZ h0 a_currency a_sort a_closing a_average a_held a_sum a_told a_left a_step a_outside a_item u v_companies v_accounts v_done v_items v_step) t) A
set_option maxHeartbeats 4000000 in
set_option maxRecDepth 100000 in
theorem c_M_trace (l : Launch) (dC : Nat → ClassId) (dI : Nat → Nat → Nat) (cI cL cZ : ClassId)  (h0 a_currency a_sort a_closing a_average a_held a_sum a_told a_left a_step a_outside a_item : Nat) (v_thrown : Int32) (v_companies : Int32) (v_accounts : Int32) (v_done : Int32) (v_items : Int32) (v_step : (Nat → Int64)) (sz : Nat) (p0 : Int32) (p1 : Int32) (p2 : Int32) {post : Int64 → Int32 → Prop} (hw : wp_M_trace p0 p1 p2 v_thrown v_companies v_accounts v_done v_step post) : Met l y_M_trace ws_M_trace rm_M_trace (kx_Pc (dC, dI) classes (kx_T cI cL cZ) (WS_M_trace cI cL cZ h0 a_currency a_sort a_closing a_average a_held a_sum a_told a_left a_step a_outside a_item v_thrown v_companies v_accounts v_done v_items v_step) sz [.ref h0, .int p0, .int p1, .int p2]) (QC_M_trace dC dI cI cL cZ (va_A (WS_M_trace cI cL cZ h0 a_currency a_sort a_closing a_average a_held a_sum a_told a_left a_step a_outside a_item v_thrown v_companies v_accounts v_done v_items v_step) sz) h0 a_currency a_sort a_closing a_average a_held a_sum a_told a_left a_step a_outside a_item v_thrown v_companies v_accounts v_done v_items v_step post) 0 0 (va_A (WS_M_trace cI cL cZ h0 a_currency a_sort a_closing a_average a_held a_sum a_told a_left a_step a_outside a_item v_thrown v_companies v_accounts v_done v_items v_step) sz) := by
  refine Met.ofW (cc := prog_5_method_32_code) (maxL := 4) (ret := (some .long)) (by decide) rfl ?_
  intro p e s m args below meth c s₁ B hml hv
  obtain ⟨rfl, hsz, hP, hK, hD0, hN⟩ := hv
  have hx := B.exec
  have hb := B.bytes
  have hr := B.returns
  have hts := atoms_spec (ws := ws_M_trace) B.pre
  have hown : s.vm.findClass R_M = some m.cls := findClass_of_methodNamed B.named
  have hlocks := B.notSynchronized
  subst hsz
  have hD := hD0.self (sz := s.heap.size)
  generalize hAe : va_A (WS_M_trace cI cL cZ h0 a_currency a_sort a_closing a_average a_held a_sum a_told a_left a_step a_outside a_item v_thrown v_companies v_accounts v_done v_items v_step) s.heap.size = A at hD ⊢
  have hA : ∀ q : Nat, s.heap.size ≤ q → A q := fun q h => by rw [← hAe]; exact Or.inr h
  have hS : va_S A s.heap s.heap [] := va_S.rf
  have hP : va_P (dC, dI) classes (WS_M_trace cI cL cZ h0 a_currency a_sort a_closing a_average a_held a_sum a_told a_left a_step a_outside a_item v_thrown v_companies v_accounts v_done v_items v_step) s.heap := hP
  have hl := lv_entry ([.ref h0, .int p0, .int p1, .int p2]) (n := 4) (Nat.le_of_ble_eq_true rfl)
  rw [lg_entry_eq]
  generalize (lg_sl ([.ref h0, .int p0, .int p1, .int p2]) ++ List.replicate (4 - (lg_sl ([.ref h0, .int p0, .int p1, .int p2])).length) Slot.unset).toArray = ls at hl ⊢
  have hl : lv_has ls 4 [(0, .ref h0), (1, .int p0), (2, .int p1), (3, .int p2)] := hl
  unfold wp_M_trace at hw
  refine (show ∀ (H : Heap) (locs : List Loc), va_P (dC, dI) classes (WS_M_trace cI cL cZ h0 a_currency a_sort a_closing a_average a_held a_sum a_told a_left a_step a_outside a_item v_thrown v_companies v_accounts v_done v_items v_step) H → va_S A s.heap H locs → W p l e (headSpec ws_M_trace rm_M_trace).room s m ([.ref h0, .int p0, .int p1, .int p2] : List Value).toArray below meth c H locs 0 0 (MQ below (QC_M_trace dC dI cI cL cZ A h0 a_currency a_sort a_closing a_average a_held a_sum a_told a_left a_step a_outside a_item v_thrown v_companies v_accounts v_done v_items v_step post) ([.ref h0, .int p0, .int p1, .int p2] : List Value).toArray s 0 0 A) (F0 m 0 ls []) from ?_) _ _ hP hS
  intro H locs hP hS
  refine lv_aload_n hx hb d_M_trace_0 rfl (lv_at hl 0 rfl) ?_
  refine lv_aload_n hx hb d_M_trace_1 rfl (lv_at hl 0 rfl) ?_
  refine va_get (D := (dC, dI)) (ci := 3) (v := .int v_done) (C := R_M) (T := F_M) (N := 16) hx hb hts (kx_in in_M) hown hK hP 0 rfl rfl 10 (by decide) (hts _ (kx_w iw_485)) (fun _ h9 => h9) rfl d_M_trace_2 ?_
  refine lv_if_eq (tgt := 37) hx hb d_M_trace_5 rfl (fun hc => ?_) (fun hc => ?_)
  ·
    have hw := hw.1 hc
    refine lv_iconst (v := 1) hx hb d_M_trace_37 (by decide) ?_
    refine va_put (D := (dC, dI)) (ci := 3) (v := .int 1) (ty := .int) (C := R_M) (T := F_M) (N := 16) hx hb hts (kx_in in_M) t_M t_M_ok n_M hown hK hP hD hS 0 rfl rfl 0 (by decide) (hts _ (kx_w iw_475)) (fun _ h9 => h9) rfl (by decide +kernel) rfl rfl (Nat.le_of_ble_eq_true rfl) d_M_trace_38 (fun H locs hP hD hS => ?_)
    have hP : va_P (dC, dI) classes (WS_M_trace cI cL cZ h0 a_currency a_sort a_closing a_average a_held a_sum a_told a_left a_step a_outside a_item 1 v_companies v_accounts v_done v_items v_step) H := hP
    have hD : va_D A (WS_M_trace cI cL cZ h0 a_currency a_sort a_closing a_average a_held a_sum a_told a_left a_step a_outside a_item 1 v_companies v_accounts v_done v_items v_step) := hD
    refine lv_aload_n hx hb d_M_trace_41 rfl (lv_at hl 0 rfl) ?_
    refine va_get (D := (dC, dI)) (ci := 3) (v := .int 1) (C := R_M) (T := F_M) (N := 16) hx hb hts (kx_in in_M) hown hK hP 0 rfl rfl 0 (by decide) (hts _ (kx_w iw_475)) (fun _ h9 => h9) rfl d_M_trace_42 ?_
    refine lv_iconst (v := 1) hx hb d_M_trace_45 (by decide) ?_
    refine lv_icmp_ne (tgt := 53) hx hb d_M_trace_46 rfl (fun hc => ?_) (fun hc => ?_)
    ·
      have hw := hw.1 hc
      refine lv_aload_n hx hb d_M_trace_53 rfl (lv_at hl 0 rfl) ?_
      refine va_get (D := (dC, dI)) (ci := 3) (v := .ref a_step) (C := R_M) (T := F_M) (N := 16) hx hb hts (kx_in in_M) hown hK hP 0 rfl rfl 12 (by decide) (hts _ (kx_w iw_487)) (fun _ h9 => h9) rfl d_M_trace_54 ?_
      refine lv_sipush (v := 144) hx hb d_M_trace_57 (by decide) ?_
      refine lv_iload_n hx hb d_M_trace_60 rfl (lv_at hl 3 rfl) ?_
      refine lv_imul hx hb d_M_trace_61 ?_
      refine lv_bipush (v := 12) hx hb d_M_trace_62 (by decide) ?_
      refine lv_iload_n hx hb d_M_trace_64 rfl (lv_at hl 2 rfl) ?_
      refine lv_imul hx hb d_M_trace_65 ?_
      refine lv_iadd hx hb d_M_trace_66 ?_
      refine lv_iload_n hx hb d_M_trace_67 rfl (lv_at hl 1 rfl) ?_
      refine lv_iadd hx hb d_M_trace_68 ?_
      obtain ⟨hi, hw⟩ := hw
      refine va_lald hx hb hK hP 1 1 rfl rfl hi d_M_trace_69 ?_
      exact W.lret (v := (v_step (Int32.toNatClampNeg (((144 * p2) + (12 * p1)) + p0)))) hx hb hr (fun t ht hW => ⟨⟨(v_step (Int32.toNatClampNeg (((144 * p2) + (12 * p1)) + p0))), 1, rfl, hw, ⟨by rw [ht]; exact hP, hD⟩⟩, hS.F ht⟩) hS.2.2 d_M_trace_70
    ·
      have hw := hw.2 hc
      refine lv_lconst (v := 0) hx hb d_M_trace_49 (by decide) ?_
      refine lv_goto (tgt := 70) hx hb d_M_trace_50 rfl ?_
      exact W.lret (v := 0) hx hb hr (fun t ht hW => ⟨⟨0, 1, rfl, hw, ⟨by rw [ht]; exact hP, hD⟩⟩, hS.F ht⟩) hS.2.2 d_M_trace_70
  ·
    have hw := hw.2 hc
    refine lv_aload_n hx hb d_M_trace_8 rfl (lv_at hl 0 rfl) ?_
    refine lv_iload_n hx hb d_M_trace_9 rfl (lv_at hl 1 rfl) ?_
    refine kx_calli (ws' := fun u10 => (WS_M_trace cI cL cZ h0 a_currency a_sort a_closing a_average a_held a_sum a_told a_left a_step a_outside a_item v_thrown v_companies v_accounts v_done v_items v_step)) (va_runV (As := [.int p0]) (rest := [.ref h0]) ⟨hx, hb, hml, hown, hts⟩ (c_M_isAccount l dC dI cI cL cZ h0 a_currency a_sort a_closing a_average a_held a_sum a_told a_left a_step a_outside a_item v_thrown v_companies v_accounts v_done v_items H.size p0 hw) ⟨(callB_of 1 hts (kx_good iw_564) rfl rfl rfl (hts _ (kx_w iw_4)) (hts _ (kx_w iw_561)) (by decide +kernel) ⟨Nat.le_of_ble_eq_true rfl, Nat.le_of_ble_eq_true rfl⟩), (hts _ (kx_w iw_563)), (hts _ (kx_w sl_M_isAccount))⟩ (kx_preV hN hK hP hD [0] (by decide) rfl 0 rfl rfl) rfl rfl hl.1 rfl (lv_room (Nat.le_of_ble_eq_true rfl)) d_M_trace_10 ⟨Nat.le_of_ble_eq_true rfl, Nat.le_of_ble_eq_true rfl⟩) hP hD hS hA [0] [1] rfl rfl (by decide) (by decide) [1, 0] (by decide) (fun _ => rfl) (fun r10 u10 H locs hw hP hD hS => ?_)
    have hP : va_P (dC, dI) classes (WS_M_trace cI cL cZ h0 a_currency a_sort a_closing a_average a_held a_sum a_told a_left a_step a_outside a_item v_thrown v_companies v_accounts v_done v_items v_step) H := hP
    have hD : va_D A (WS_M_trace cI cL cZ h0 a_currency a_sort a_closing a_average a_held a_sum a_told a_left a_step a_outside a_item v_thrown v_companies v_accounts v_done v_items v_step) := hD
    refine lv_if_eq (tgt := 37) hx hb d_M_trace_13 rfl (fun hc => ?_) (fun hc => ?_)
    ·
      have hw := hw.1 hc
      refine lv_iconst (v := 1) hx hb d_M_trace_37 (by decide) ?_
      refine va_put (D := (dC, dI)) (ci := 3) (v := .int 1) (ty := .int) (C := R_M) (T := F_M) (N := 16) hx hb hts (kx_in in_M) t_M t_M_ok n_M hown hK hP hD hS 0 rfl rfl 0 (by decide) (hts _ (kx_w iw_475)) (fun _ h9 => h9) rfl (by decide +kernel) rfl rfl (Nat.le_of_ble_eq_true rfl) d_M_trace_38 (fun H locs hP hD hS => ?_)
      have hP : va_P (dC, dI) classes (WS_M_trace cI cL cZ h0 a_currency a_sort a_closing a_average a_held a_sum a_told a_left a_step a_outside a_item 1 v_companies v_accounts v_done v_items v_step) H := hP
      have hD : va_D A (WS_M_trace cI cL cZ h0 a_currency a_sort a_closing a_average a_held a_sum a_told a_left a_step a_outside a_item 1 v_companies v_accounts v_done v_items v_step) := hD
      refine lv_aload_n hx hb d_M_trace_41 rfl (lv_at hl 0 rfl) ?_
      refine va_get (D := (dC, dI)) (ci := 3) (v := .int 1) (C := R_M) (T := F_M) (N := 16) hx hb hts (kx_in in_M) hown hK hP 0 rfl rfl 0 (by decide) (hts _ (kx_w iw_475)) (fun _ h9 => h9) rfl d_M_trace_42 ?_
      refine lv_iconst (v := 1) hx hb d_M_trace_45 (by decide) ?_
      refine lv_icmp_ne (tgt := 53) hx hb d_M_trace_46 rfl (fun hc => ?_) (fun hc => ?_)
      ·
        have hw := hw.1 hc
        refine lv_aload_n hx hb d_M_trace_53 rfl (lv_at hl 0 rfl) ?_
        refine va_get (D := (dC, dI)) (ci := 3) (v := .ref a_step) (C := R_M) (T := F_M) (N := 16) hx hb hts (kx_in in_M) hown hK hP 0 rfl rfl 12 (by decide) (hts _ (kx_w iw_487)) (fun _ h9 => h9) rfl d_M_trace_54 ?_
        refine lv_sipush (v := 144) hx hb d_M_trace_57 (by decide) ?_
        refine lv_iload_n hx hb d_M_trace_60 rfl (lv_at hl 3 rfl) ?_
        refine lv_imul hx hb d_M_trace_61 ?_
        refine lv_bipush (v := 12) hx hb d_M_trace_62 (by decide) ?_
        refine lv_iload_n hx hb d_M_trace_64 rfl (lv_at hl 2 rfl) ?_
        refine lv_imul hx hb d_M_trace_65 ?_
        refine lv_iadd hx hb d_M_trace_66 ?_
        refine lv_iload_n hx hb d_M_trace_67 rfl (lv_at hl 1 rfl) ?_
        refine lv_iadd hx hb d_M_trace_68 ?_
        obtain ⟨hi, hw⟩ := hw
        refine va_lald hx hb hK hP 1 1 rfl rfl hi d_M_trace_69 ?_
        exact W.lret (v := (v_step (Int32.toNatClampNeg (((144 * p2) + (12 * p1)) + p0)))) hx hb hr (fun t ht hW => ⟨⟨(v_step (Int32.toNatClampNeg (((144 * p2) + (12 * p1)) + p0))), 1, rfl, hw, ⟨by rw [ht]; exact hP, hD⟩⟩, hS.F ht⟩) hS.2.2 d_M_trace_70
      ·
        have hw := hw.2 hc
        refine lv_lconst (v := 0) hx hb d_M_trace_49 (by decide) ?_
        refine lv_goto (tgt := 70) hx hb d_M_trace_50 rfl ?_
        exact W.lret (v := 0) hx hb hr (fun t ht hW => ⟨⟨0, 1, rfl, hw, ⟨by rw [ht]; exact hP, hD⟩⟩, hS.F ht⟩) hS.2.2 d_M_trace_70
    ·
      have hw := hw.2 hc
      refine lv_aload_n hx hb d_M_trace_16 rfl (lv_at hl 0 rfl) ?_
      refine lv_iload_n hx hb d_M_trace_17 rfl (lv_at hl 2 rfl) ?_
      refine kx_calli (ws' := fun u18 => (WS_M_trace cI cL cZ h0 a_currency a_sort a_closing a_average a_held a_sum a_told a_left a_step a_outside a_item v_thrown v_companies v_accounts v_done v_items v_step)) (va_runV (As := [.int p1]) (rest := [.ref h0]) ⟨hx, hb, hml, hown, hts⟩ (c_M_isCompany l dC dI cI cL cZ h0 a_currency a_sort a_closing a_average a_held a_sum a_told a_left a_step a_outside a_item v_thrown v_companies v_accounts v_done v_items H.size p1 hw) ⟨(callB_of 1 hts (kx_good iw_547) rfl rfl rfl (hts _ (kx_w iw_4)) (hts _ (kx_w iw_544)) (by decide +kernel) ⟨Nat.le_of_ble_eq_true rfl, Nat.le_of_ble_eq_true rfl⟩), (hts _ (kx_w iw_546)), (hts _ (kx_w sl_M_isCompany))⟩ (kx_preV hN hK hP hD [0] (by decide) rfl 0 rfl rfl) rfl rfl hl.1 rfl (lv_room (Nat.le_of_ble_eq_true rfl)) d_M_trace_18 ⟨Nat.le_of_ble_eq_true rfl, Nat.le_of_ble_eq_true rfl⟩) hP hD hS hA [0] [1] rfl rfl (by decide) (by decide) [1, 0] (by decide) (fun _ => rfl) (fun r18 u18 H locs hw hP hD hS => ?_)
      have hP : va_P (dC, dI) classes (WS_M_trace cI cL cZ h0 a_currency a_sort a_closing a_average a_held a_sum a_told a_left a_step a_outside a_item v_thrown v_companies v_accounts v_done v_items v_step) H := hP
      have hD : va_D A (WS_M_trace cI cL cZ h0 a_currency a_sort a_closing a_average a_held a_sum a_told a_left a_step a_outside a_item v_thrown v_companies v_accounts v_done v_items v_step) := hD
      refine lv_if_eq (tgt := 37) hx hb d_M_trace_21 rfl (fun hc => ?_) (fun hc => ?_)
      ·
        have hw := hw.1 hc
        refine lv_iconst (v := 1) hx hb d_M_trace_37 (by decide) ?_
        refine va_put (D := (dC, dI)) (ci := 3) (v := .int 1) (ty := .int) (C := R_M) (T := F_M) (N := 16) hx hb hts (kx_in in_M) t_M t_M_ok n_M hown hK hP hD hS 0 rfl rfl 0 (by decide) (hts _ (kx_w iw_475)) (fun _ h9 => h9) rfl (by decide +kernel) rfl rfl (Nat.le_of_ble_eq_true rfl) d_M_trace_38 (fun H locs hP hD hS => ?_)
        have hP : va_P (dC, dI) classes (WS_M_trace cI cL cZ h0 a_currency a_sort a_closing a_average a_held a_sum a_told a_left a_step a_outside a_item 1 v_companies v_accounts v_done v_items v_step) H := hP
        have hD : va_D A (WS_M_trace cI cL cZ h0 a_currency a_sort a_closing a_average a_held a_sum a_told a_left a_step a_outside a_item 1 v_companies v_accounts v_done v_items v_step) := hD
        refine lv_aload_n hx hb d_M_trace_41 rfl (lv_at hl 0 rfl) ?_
        refine va_get (D := (dC, dI)) (ci := 3) (v := .int 1) (C := R_M) (T := F_M) (N := 16) hx hb hts (kx_in in_M) hown hK hP 0 rfl rfl 0 (by decide) (hts _ (kx_w iw_475)) (fun _ h9 => h9) rfl d_M_trace_42 ?_
        refine lv_iconst (v := 1) hx hb d_M_trace_45 (by decide) ?_
        refine lv_icmp_ne (tgt := 53) hx hb d_M_trace_46 rfl (fun hc => ?_) (fun hc => ?_)
        ·
          have hw := hw.1 hc
          refine lv_aload_n hx hb d_M_trace_53 rfl (lv_at hl 0 rfl) ?_
          refine va_get (D := (dC, dI)) (ci := 3) (v := .ref a_step) (C := R_M) (T := F_M) (N := 16) hx hb hts (kx_in in_M) hown hK hP 0 rfl rfl 12 (by decide) (hts _ (kx_w iw_487)) (fun _ h9 => h9) rfl d_M_trace_54 ?_
          refine lv_sipush (v := 144) hx hb d_M_trace_57 (by decide) ?_
          refine lv_iload_n hx hb d_M_trace_60 rfl (lv_at hl 3 rfl) ?_
          refine lv_imul hx hb d_M_trace_61 ?_
          refine lv_bipush (v := 12) hx hb d_M_trace_62 (by decide) ?_
          refine lv_iload_n hx hb d_M_trace_64 rfl (lv_at hl 2 rfl) ?_
          refine lv_imul hx hb d_M_trace_65 ?_
          refine lv_iadd hx hb d_M_trace_66 ?_
          refine lv_iload_n hx hb d_M_trace_67 rfl (lv_at hl 1 rfl) ?_
          refine lv_iadd hx hb d_M_trace_68 ?_
          obtain ⟨hi, hw⟩ := hw
          refine va_lald hx hb hK hP 1 1 rfl rfl hi d_M_trace_69 ?_
          exact W.lret (v := (v_step (Int32.toNatClampNeg (((144 * p2) + (12 * p1)) + p0)))) hx hb hr (fun t ht hW => ⟨⟨(v_step (Int32.toNatClampNeg (((144 * p2) + (12 * p1)) + p0))), 1, rfl, hw, ⟨by rw [ht]; exact hP, hD⟩⟩, hS.F ht⟩) hS.2.2 d_M_trace_70
        ·
          have hw := hw.2 hc
          refine lv_lconst (v := 0) hx hb d_M_trace_49 (by decide) ?_
          refine lv_goto (tgt := 70) hx hb d_M_trace_50 rfl ?_
          exact W.lret (v := 0) hx hb hr (fun t ht hW => ⟨⟨0, 1, rfl, hw, ⟨by rw [ht]; exact hP, hD⟩⟩, hS.F ht⟩) hS.2.2 d_M_trace_70
      ·
        have hw := hw.2 hc
        refine lv_iload_n hx hb d_M_trace_24 rfl (lv_at hl 3 rfl) ?_
        refine lv_if_lt (tgt := 37) hx hb d_M_trace_25 rfl (fun hc => ?_) (fun hc => ?_)
        ·
          have hw := hw.1 hc
          refine lv_iconst (v := 1) hx hb d_M_trace_37 (by decide) ?_
          refine va_put (D := (dC, dI)) (ci := 3) (v := .int 1) (ty := .int) (C := R_M) (T := F_M) (N := 16) hx hb hts (kx_in in_M) t_M t_M_ok n_M hown hK hP hD hS 0 rfl rfl 0 (by decide) (hts _ (kx_w iw_475)) (fun _ h9 => h9) rfl (by decide +kernel) rfl rfl (Nat.le_of_ble_eq_true rfl) d_M_trace_38 (fun H locs hP hD hS => ?_)
          have hP : va_P (dC, dI) classes (WS_M_trace cI cL cZ h0 a_currency a_sort a_closing a_average a_held a_sum a_told a_left a_step a_outside a_item 1 v_companies v_accounts v_done v_items v_step) H := hP
          have hD : va_D A (WS_M_trace cI cL cZ h0 a_currency a_sort a_closing a_average a_held a_sum a_told a_left a_step a_outside a_item 1 v_companies v_accounts v_done v_items v_step) := hD
          refine lv_aload_n hx hb d_M_trace_41 rfl (lv_at hl 0 rfl) ?_
          refine va_get (D := (dC, dI)) (ci := 3) (v := .int 1) (C := R_M) (T := F_M) (N := 16) hx hb hts (kx_in in_M) hown hK hP 0 rfl rfl 0 (by decide) (hts _ (kx_w iw_475)) (fun _ h9 => h9) rfl d_M_trace_42 ?_
          refine lv_iconst (v := 1) hx hb d_M_trace_45 (by decide) ?_
          refine lv_icmp_ne (tgt := 53) hx hb d_M_trace_46 rfl (fun hc => ?_) (fun hc => ?_)
          ·
            have hw := hw.1 hc
            refine lv_aload_n hx hb d_M_trace_53 rfl (lv_at hl 0 rfl) ?_
            refine va_get (D := (dC, dI)) (ci := 3) (v := .ref a_step) (C := R_M) (T := F_M) (N := 16) hx hb hts (kx_in in_M) hown hK hP 0 rfl rfl 12 (by decide) (hts _ (kx_w iw_487)) (fun _ h9 => h9) rfl d_M_trace_54 ?_
            refine lv_sipush (v := 144) hx hb d_M_trace_57 (by decide) ?_
            refine lv_iload_n hx hb d_M_trace_60 rfl (lv_at hl 3 rfl) ?_
            refine lv_imul hx hb d_M_trace_61 ?_
            refine lv_bipush (v := 12) hx hb d_M_trace_62 (by decide) ?_
            refine lv_iload_n hx hb d_M_trace_64 rfl (lv_at hl 2 rfl) ?_
            refine lv_imul hx hb d_M_trace_65 ?_
            refine lv_iadd hx hb d_M_trace_66 ?_
            refine lv_iload_n hx hb d_M_trace_67 rfl (lv_at hl 1 rfl) ?_
            refine lv_iadd hx hb d_M_trace_68 ?_
            obtain ⟨hi, hw⟩ := hw
            refine va_lald hx hb hK hP 1 1 rfl rfl hi d_M_trace_69 ?_
            exact W.lret (v := (v_step (Int32.toNatClampNeg (((144 * p2) + (12 * p1)) + p0)))) hx hb hr (fun t ht hW => ⟨⟨(v_step (Int32.toNatClampNeg (((144 * p2) + (12 * p1)) + p0))), 1, rfl, hw, ⟨by rw [ht]; exact hP, hD⟩⟩, hS.F ht⟩) hS.2.2 d_M_trace_70
          ·
            have hw := hw.2 hc
            refine lv_lconst (v := 0) hx hb d_M_trace_49 (by decide) ?_
            refine lv_goto (tgt := 70) hx hb d_M_trace_50 rfl ?_
            exact W.lret (v := 0) hx hb hr (fun t ht hW => ⟨⟨0, 1, rfl, hw, ⟨by rw [ht]; exact hP, hD⟩⟩, hS.F ht⟩) hS.2.2 d_M_trace_70
        ·
          have hw := hw.2 hc
          refine lv_iload_n hx hb d_M_trace_28 rfl (lv_at hl 3 rfl) ?_
          refine lv_iconst (v := 3) hx hb d_M_trace_29 (by decide) ?_
          refine lv_icmp_ge (tgt := 37) hx hb d_M_trace_30 rfl (fun hc => ?_) (fun hc => ?_)
          ·
            have hw := hw.1 hc
            refine lv_iconst (v := 1) hx hb d_M_trace_37 (by decide) ?_
            refine va_put (D := (dC, dI)) (ci := 3) (v := .int 1) (ty := .int) (C := R_M) (T := F_M) (N := 16) hx hb hts (kx_in in_M) t_M t_M_ok n_M hown hK hP hD hS 0 rfl rfl 0 (by decide) (hts _ (kx_w iw_475)) (fun _ h9 => h9) rfl (by decide +kernel) rfl rfl (Nat.le_of_ble_eq_true rfl) d_M_trace_38 (fun H locs hP hD hS => ?_)
            have hP : va_P (dC, dI) classes (WS_M_trace cI cL cZ h0 a_currency a_sort a_closing a_average a_held a_sum a_told a_left a_step a_outside a_item 1 v_companies v_accounts v_done v_items v_step) H := hP
            have hD : va_D A (WS_M_trace cI cL cZ h0 a_currency a_sort a_closing a_average a_held a_sum a_told a_left a_step a_outside a_item 1 v_companies v_accounts v_done v_items v_step) := hD
            refine lv_aload_n hx hb d_M_trace_41 rfl (lv_at hl 0 rfl) ?_
            refine va_get (D := (dC, dI)) (ci := 3) (v := .int 1) (C := R_M) (T := F_M) (N := 16) hx hb hts (kx_in in_M) hown hK hP 0 rfl rfl 0 (by decide) (hts _ (kx_w iw_475)) (fun _ h9 => h9) rfl d_M_trace_42 ?_
            refine lv_iconst (v := 1) hx hb d_M_trace_45 (by decide) ?_
            refine lv_icmp_ne (tgt := 53) hx hb d_M_trace_46 rfl (fun hc => ?_) (fun hc => ?_)
            ·
              have hw := hw.1 hc
              refine lv_aload_n hx hb d_M_trace_53 rfl (lv_at hl 0 rfl) ?_
              refine va_get (D := (dC, dI)) (ci := 3) (v := .ref a_step) (C := R_M) (T := F_M) (N := 16) hx hb hts (kx_in in_M) hown hK hP 0 rfl rfl 12 (by decide) (hts _ (kx_w iw_487)) (fun _ h9 => h9) rfl d_M_trace_54 ?_
              refine lv_sipush (v := 144) hx hb d_M_trace_57 (by decide) ?_
              refine lv_iload_n hx hb d_M_trace_60 rfl (lv_at hl 3 rfl) ?_
              refine lv_imul hx hb d_M_trace_61 ?_
              refine lv_bipush (v := 12) hx hb d_M_trace_62 (by decide) ?_
              refine lv_iload_n hx hb d_M_trace_64 rfl (lv_at hl 2 rfl) ?_
              refine lv_imul hx hb d_M_trace_65 ?_
              refine lv_iadd hx hb d_M_trace_66 ?_
              refine lv_iload_n hx hb d_M_trace_67 rfl (lv_at hl 1 rfl) ?_
              refine lv_iadd hx hb d_M_trace_68 ?_
              obtain ⟨hi, hw⟩ := hw
              refine va_lald hx hb hK hP 1 1 rfl rfl hi d_M_trace_69 ?_
              exact W.lret (v := (v_step (Int32.toNatClampNeg (((144 * p2) + (12 * p1)) + p0)))) hx hb hr (fun t ht hW => ⟨⟨(v_step (Int32.toNatClampNeg (((144 * p2) + (12 * p1)) + p0))), 1, rfl, hw, ⟨by rw [ht]; exact hP, hD⟩⟩, hS.F ht⟩) hS.2.2 d_M_trace_70
            ·
              have hw := hw.2 hc
              refine lv_lconst (v := 0) hx hb d_M_trace_49 (by decide) ?_
              refine lv_goto (tgt := 70) hx hb d_M_trace_50 rfl ?_
              exact W.lret (v := 0) hx hb hr (fun t ht hW => ⟨⟨0, 1, rfl, hw, ⟨by rw [ht]; exact hP, hD⟩⟩, hS.F ht⟩) hS.2.2 d_M_trace_70
          ·
            have hw := hw.2 hc
            refine lv_iconst (v := 0) hx hb d_M_trace_33 (by decide) ?_
            refine lv_goto (tgt := 38) hx hb d_M_trace_34 rfl ?_
            refine va_put (D := (dC, dI)) (ci := 3) (v := .int 0) (ty := .int) (C := R_M) (T := F_M) (N := 16) hx hb hts (kx_in in_M) t_M t_M_ok n_M hown hK hP hD hS 0 rfl rfl 0 (by decide) (hts _ (kx_w iw_475)) (fun _ h9 => h9) rfl (by decide +kernel) rfl rfl (Nat.le_of_ble_eq_true rfl) d_M_trace_38 (fun H locs hP hD hS => ?_)
            have hP : va_P (dC, dI) classes (WS_M_trace cI cL cZ h0 a_currency a_sort a_closing a_average a_held a_sum a_told a_left a_step a_outside a_item 0 v_companies v_accounts v_done v_items v_step) H := hP
            have hD : va_D A (WS_M_trace cI cL cZ h0 a_currency a_sort a_closing a_average a_held a_sum a_told a_left a_step a_outside a_item 0 v_companies v_accounts v_done v_items v_step) := hD
            refine lv_aload_n hx hb d_M_trace_41 rfl (lv_at hl 0 rfl) ?_
            refine va_get (D := (dC, dI)) (ci := 3) (v := .int 0) (C := R_M) (T := F_M) (N := 16) hx hb hts (kx_in in_M) hown hK hP 0 rfl rfl 0 (by decide) (hts _ (kx_w iw_475)) (fun _ h9 => h9) rfl d_M_trace_42 ?_
            refine lv_iconst (v := 1) hx hb d_M_trace_45 (by decide) ?_
            refine lv_icmp_ne (tgt := 53) hx hb d_M_trace_46 rfl (fun hc => ?_) (fun hc => ?_)
            ·
              have hw := hw.1 hc
              refine lv_aload_n hx hb d_M_trace_53 rfl (lv_at hl 0 rfl) ?_
              refine va_get (D := (dC, dI)) (ci := 3) (v := .ref a_step) (C := R_M) (T := F_M) (N := 16) hx hb hts (kx_in in_M) hown hK hP 0 rfl rfl 12 (by decide) (hts _ (kx_w iw_487)) (fun _ h9 => h9) rfl d_M_trace_54 ?_
              refine lv_sipush (v := 144) hx hb d_M_trace_57 (by decide) ?_
              refine lv_iload_n hx hb d_M_trace_60 rfl (lv_at hl 3 rfl) ?_
              refine lv_imul hx hb d_M_trace_61 ?_
              refine lv_bipush (v := 12) hx hb d_M_trace_62 (by decide) ?_
              refine lv_iload_n hx hb d_M_trace_64 rfl (lv_at hl 2 rfl) ?_
              refine lv_imul hx hb d_M_trace_65 ?_
              refine lv_iadd hx hb d_M_trace_66 ?_
              refine lv_iload_n hx hb d_M_trace_67 rfl (lv_at hl 1 rfl) ?_
              refine lv_iadd hx hb d_M_trace_68 ?_
              obtain ⟨hi, hw⟩ := hw
              refine va_lald hx hb hK hP 1 1 rfl rfl hi d_M_trace_69 ?_
              exact W.lret (v := (v_step (Int32.toNatClampNeg (((144 * p2) + (12 * p1)) + p0)))) hx hb hr (fun t ht hW => ⟨⟨(v_step (Int32.toNatClampNeg (((144 * p2) + (12 * p1)) + p0))), 0, rfl, hw, ⟨by rw [ht]; exact hP, hD⟩⟩, hS.F ht⟩) hS.2.2 d_M_trace_70
            ·
              have hw := hw.2 hc
              refine lv_lconst (v := 0) hx hb d_M_trace_49 (by decide) ?_
              refine lv_goto (tgt := 70) hx hb d_M_trace_50 rfl ?_
              exact W.lret (v := 0) hx hb hr (fun t ht hW => ⟨⟨0, 0, rfl, hw, ⟨by rw [ht]; exact hP, hD⟩⟩, hS.F ht⟩) hS.2.2 d_M_trace_70
/-! ConsolidationDeskModel.minority(I)J -/
abbrev y_M_minority : MethodName := ⟨"ConsolidationDeskModel", "minority", "(I)J"⟩
theorem d_M_minority_0 : decode prog_5_method_33_code 0 = .ok (.aload_n 0, 1) := by decide +kernel
theorem d_M_minority_1 : decode prog_5_method_33_code 1 = .ok (.aload_n 0, 1) := by decide +kernel
theorem d_M_minority_2 : decode prog_5_method_33_code 2 = .ok (.getfield 119, 3) := by decide +kernel
theorem d_M_minority_5 : decode prog_5_method_33_code 5 = .ok (.ifCond .eq 15, 3) := by decide +kernel
theorem d_M_minority_8 : decode prog_5_method_33_code 8 = .ok (.aload_n 0, 1) := by decide +kernel
theorem d_M_minority_9 : decode prog_5_method_33_code 9 = .ok (.iload_n 1, 1) := by decide +kernel
theorem d_M_minority_10 : decode prog_5_method_33_code 10 = .ok (.invokevirtual 59, 3) := by decide +kernel
theorem d_M_minority_13 : decode prog_5_method_33_code 13 = .ok (.ifCond .eq 7, 3) := by decide +kernel
theorem d_M_minority_16 : decode prog_5_method_33_code 16 = .ok (.iconst 0, 1) := by decide +kernel
theorem d_M_minority_17 : decode prog_5_method_33_code 17 = .ok (.goto 4, 3) := by decide +kernel
theorem d_M_minority_20 : decode prog_5_method_33_code 20 = .ok (.iconst 1, 1) := by decide +kernel
theorem d_M_minority_21 : decode prog_5_method_33_code 21 = .ok (.putfield 49, 3) := by decide +kernel
theorem d_M_minority_24 : decode prog_5_method_33_code 24 = .ok (.aload_n 0, 1) := by decide +kernel
theorem d_M_minority_25 : decode prog_5_method_33_code 25 = .ok (.getfield 49, 3) := by decide +kernel
theorem d_M_minority_28 : decode prog_5_method_33_code 28 = .ok (.iconst 1, 1) := by decide +kernel
theorem d_M_minority_29 : decode prog_5_method_33_code 29 = .ok (.if_icmp .ne 7, 3) := by decide +kernel
theorem d_M_minority_32 : decode prog_5_method_33_code 32 = .ok (.lconst 0, 1) := by decide +kernel
theorem d_M_minority_33 : decode prog_5_method_33_code 33 = .ok (.goto 9, 3) := by decide +kernel
theorem d_M_minority_36 : decode prog_5_method_33_code 36 = .ok (.aload_n 0, 1) := by decide +kernel
theorem d_M_minority_37 : decode prog_5_method_33_code 37 = .ok (.getfield 38, 3) := by decide +kernel
theorem d_M_minority_40 : decode prog_5_method_33_code 40 = .ok (.iload_n 1, 1) := by decide +kernel
theorem d_M_minority_41 : decode prog_5_method_33_code 41 = .ok (.laload, 1) := by decide +kernel
theorem d_M_minority_42 : decode prog_5_method_33_code 42 = .ok (.lreturn, 1) := by decide +kernel
abbrev WS_M_minority (cI cL cZ : ClassId)  (h0 a_currency a_sort a_closing a_average a_held a_sum a_told a_left a_step a_outside a_item : Nat) (v_thrown : Int32) (v_companies : Int32) (v_accounts : Int32) (v_done : Int32) (v_items : Int32) (v_outside : (Nat → Int64)) : va_W := [(h0, .inr (3, [.int v_thrown, .int v_companies, .int v_accounts, .ref a_currency, .ref a_sort, .ref a_closing, .ref a_average, .ref a_held, .ref a_sum, .ref a_told, .int v_done, .ref a_left, .ref a_step, .ref a_outside, .int v_items, .ref a_item])), (a_outside, .inl (cL, 12, .inr (.inl v_outside)))]
def wp_M_minority  (p0 : Int32) (v_thrown : Int32) (v_companies : Int32) (v_done : Int32) (v_outside : (Nat → Int64)) (post : Int64 → Int32 → Prop) : Prop := ((v_done = 0 → ((¬ (1 : Int32) = 1 → (vp_in p0 12 ∧ post (v_outside p0.toNatClampNeg) 1)) ∧ ((1 : Int32) = 1 → post 0 1))) ∧ (¬ v_done = 0 → (wp_M_isCompany p0 v_companies (fun (r10 : Int32) (u10 : Unit) => ((r10 = 0 → ((¬ (1 : Int32) = 1 → (vp_in p0 12 ∧ post (v_outside p0.toNatClampNeg) 1)) ∧ ((1 : Int32) = 1 → post 0 1))) ∧ (¬ r10 = 0 → ((¬ (0 : Int32) = 1 → (vp_in p0 12 ∧ post (v_outside p0.toNatClampNeg) 0)) ∧ ((0 : Int32) = 1 → post 0 0))))))))
abbrev ws_M_minority : List Cond := .code y_M_minority prog_5_method_33_code 2 (some .long) :: kxW
abbrev rm_M_minority : Room := { frames := 1, cells := 0, slots := 0, locals := 21 }
abbrev QC_M_minority (dC : Nat → ClassId) (dI : Nat → Nat → Nat) (cI cL cZ : ClassId) (A : Nat → Prop)  (h0 a_currency a_sort a_closing a_average a_held a_sum a_told a_left a_step a_outside a_item : Nat) (v_thrown : Int32) (v_companies : Int32) (v_accounts : Int32) (v_done : Int32) (v_items : Int32) (v_outside : (Nat → Int64)) (post : Int64 → Int32 → Prop) : Array Value → State → Outcome → State → Prop := va_Ql post (fun (u : Int32) t => kx_B (dC, dI) classes A (WS_M_minority cI cL cZ h0 a_currency a_sort a_closing a_average a_held a_sum a_told a_left a_step a_outside a_item u v_companies v_accounts v_done v_items v_outside) t) A
set_option maxHeartbeats 4000000 in
set_option maxRecDepth 100000 in
theorem c_M_minority (l : Launch) (dC : Nat → ClassId) (dI : Nat → Nat → Nat) (cI cL cZ : ClassId)  (h0 a_currency a_sort a_closing a_average a_held a_sum a_told a_left a_step a_outside a_item : Nat) (v_thrown : Int32) (v_companies : Int32) (v_accounts : Int32) (v_done : Int32) (v_items : Int32) (v_outside : (Nat → Int64)) (sz : Nat) (p0 : Int32) {post : Int64 → Int32 → Prop} (hw : wp_M_minority p0 v_thrown v_companies v_done v_outside post) : Met l y_M_minority ws_M_minority rm_M_minority (kx_Pc (dC, dI) classes (kx_T cI cL cZ) (WS_M_minority cI cL cZ h0 a_currency a_sort a_closing a_average a_held a_sum a_told a_left a_step a_outside a_item v_thrown v_companies v_accounts v_done v_items v_outside) sz [.ref h0, .int p0]) (QC_M_minority dC dI cI cL cZ (va_A (WS_M_minority cI cL cZ h0 a_currency a_sort a_closing a_average a_held a_sum a_told a_left a_step a_outside a_item v_thrown v_companies v_accounts v_done v_items v_outside) sz) h0 a_currency a_sort a_closing a_average a_held a_sum a_told a_left a_step a_outside a_item v_thrown v_companies v_accounts v_done v_items v_outside post) 0 0 (va_A (WS_M_minority cI cL cZ h0 a_currency a_sort a_closing a_average a_held a_sum a_told a_left a_step a_outside a_item v_thrown v_companies v_accounts v_done v_items v_outside) sz) := by
  refine Met.ofW (cc := prog_5_method_33_code) (maxL := 2) (ret := (some .long)) (by decide) rfl ?_
  intro p e s m args below meth c s₁ B hml hv
  obtain ⟨rfl, hsz, hP, hK, hD0, hN⟩ := hv
  have hx := B.exec
  have hb := B.bytes
  have hr := B.returns
  have hts := atoms_spec (ws := ws_M_minority) B.pre
  have hown : s.vm.findClass R_M = some m.cls := findClass_of_methodNamed B.named
  have hlocks := B.notSynchronized
  subst hsz
  have hD := hD0.self (sz := s.heap.size)
  generalize hAe : va_A (WS_M_minority cI cL cZ h0 a_currency a_sort a_closing a_average a_held a_sum a_told a_left a_step a_outside a_item v_thrown v_companies v_accounts v_done v_items v_outside) s.heap.size = A at hD ⊢
  have hA : ∀ q : Nat, s.heap.size ≤ q → A q := fun q h => by rw [← hAe]; exact Or.inr h
  have hS : va_S A s.heap s.heap [] := va_S.rf
  have hP : va_P (dC, dI) classes (WS_M_minority cI cL cZ h0 a_currency a_sort a_closing a_average a_held a_sum a_told a_left a_step a_outside a_item v_thrown v_companies v_accounts v_done v_items v_outside) s.heap := hP
  have hl := lv_entry ([.ref h0, .int p0]) (n := 2) (Nat.le_of_ble_eq_true rfl)
  rw [lg_entry_eq]
  generalize (lg_sl ([.ref h0, .int p0]) ++ List.replicate (2 - (lg_sl ([.ref h0, .int p0])).length) Slot.unset).toArray = ls at hl ⊢
  have hl : lv_has ls 2 [(0, .ref h0), (1, .int p0)] := hl
  unfold wp_M_minority at hw
  refine (show ∀ (H : Heap) (locs : List Loc), va_P (dC, dI) classes (WS_M_minority cI cL cZ h0 a_currency a_sort a_closing a_average a_held a_sum a_told a_left a_step a_outside a_item v_thrown v_companies v_accounts v_done v_items v_outside) H → va_S A s.heap H locs → W p l e (headSpec ws_M_minority rm_M_minority).room s m ([.ref h0, .int p0] : List Value).toArray below meth c H locs 0 0 (MQ below (QC_M_minority dC dI cI cL cZ A h0 a_currency a_sort a_closing a_average a_held a_sum a_told a_left a_step a_outside a_item v_thrown v_companies v_accounts v_done v_items v_outside post) ([.ref h0, .int p0] : List Value).toArray s 0 0 A) (F0 m 0 ls []) from ?_) _ _ hP hS
  intro H locs hP hS
  refine lv_aload_n hx hb d_M_minority_0 rfl (lv_at hl 0 rfl) ?_
  refine lv_aload_n hx hb d_M_minority_1 rfl (lv_at hl 0 rfl) ?_
  refine va_get (D := (dC, dI)) (ci := 3) (v := .int v_done) (C := R_M) (T := F_M) (N := 16) hx hb hts (kx_in in_M) hown hK hP 0 rfl rfl 10 (by decide) (hts _ (kx_w iw_485)) (fun _ h9 => h9) rfl d_M_minority_2 ?_
  refine lv_if_eq (tgt := 20) hx hb d_M_minority_5 rfl (fun hc => ?_) (fun hc => ?_)
  ·
    have hw := hw.1 hc
    refine lv_iconst (v := 1) hx hb d_M_minority_20 (by decide) ?_
    refine va_put (D := (dC, dI)) (ci := 3) (v := .int 1) (ty := .int) (C := R_M) (T := F_M) (N := 16) hx hb hts (kx_in in_M) t_M t_M_ok n_M hown hK hP hD hS 0 rfl rfl 0 (by decide) (hts _ (kx_w iw_475)) (fun _ h9 => h9) rfl (by decide +kernel) rfl rfl (Nat.le_of_ble_eq_true rfl) d_M_minority_21 (fun H locs hP hD hS => ?_)
    have hP : va_P (dC, dI) classes (WS_M_minority cI cL cZ h0 a_currency a_sort a_closing a_average a_held a_sum a_told a_left a_step a_outside a_item 1 v_companies v_accounts v_done v_items v_outside) H := hP
    have hD : va_D A (WS_M_minority cI cL cZ h0 a_currency a_sort a_closing a_average a_held a_sum a_told a_left a_step a_outside a_item 1 v_companies v_accounts v_done v_items v_outside) := hD
    refine lv_aload_n hx hb d_M_minority_24 rfl (lv_at hl 0 rfl) ?_
    refine va_get (D := (dC, dI)) (ci := 3) (v := .int 1) (C := R_M) (T := F_M) (N := 16) hx hb hts (kx_in in_M) hown hK hP 0 rfl rfl 0 (by decide) (hts _ (kx_w iw_475)) (fun _ h9 => h9) rfl d_M_minority_25 ?_
    refine lv_iconst (v := 1) hx hb d_M_minority_28 (by decide) ?_
    refine lv_icmp_ne (tgt := 36) hx hb d_M_minority_29 rfl (fun hc => ?_) (fun hc => ?_)
    ·
      have hw := hw.1 hc
      refine lv_aload_n hx hb d_M_minority_36 rfl (lv_at hl 0 rfl) ?_
      refine va_get (D := (dC, dI)) (ci := 3) (v := .ref a_outside) (C := R_M) (T := F_M) (N := 16) hx hb hts (kx_in in_M) hown hK hP 0 rfl rfl 13 (by decide) (hts _ (kx_w iw_488)) (fun _ h9 => h9) rfl d_M_minority_37 ?_
      refine lv_iload_n hx hb d_M_minority_40 rfl (lv_at hl 1 rfl) ?_
      obtain ⟨hi, hw⟩ := hw
      refine va_lald hx hb hK hP 1 1 rfl rfl hi d_M_minority_41 ?_
      exact W.lret (v := (v_outside p0.toNatClampNeg)) hx hb hr (fun t ht hW => ⟨⟨(v_outside p0.toNatClampNeg), 1, rfl, hw, ⟨by rw [ht]; exact hP, hD⟩⟩, hS.F ht⟩) hS.2.2 d_M_minority_42
    ·
      have hw := hw.2 hc
      refine lv_lconst (v := 0) hx hb d_M_minority_32 (by decide) ?_
      refine lv_goto (tgt := 42) hx hb d_M_minority_33 rfl ?_
      exact W.lret (v := 0) hx hb hr (fun t ht hW => ⟨⟨0, 1, rfl, hw, ⟨by rw [ht]; exact hP, hD⟩⟩, hS.F ht⟩) hS.2.2 d_M_minority_42
  ·
    have hw := hw.2 hc
    refine lv_aload_n hx hb d_M_minority_8 rfl (lv_at hl 0 rfl) ?_
    refine lv_iload_n hx hb d_M_minority_9 rfl (lv_at hl 1 rfl) ?_
    refine kx_calli (ws' := fun u10 => (WS_M_minority cI cL cZ h0 a_currency a_sort a_closing a_average a_held a_sum a_told a_left a_step a_outside a_item v_thrown v_companies v_accounts v_done v_items v_outside)) (va_runV (As := [.int p0]) (rest := [.ref h0]) ⟨hx, hb, hml, hown, hts⟩ (c_M_isCompany l dC dI cI cL cZ h0 a_currency a_sort a_closing a_average a_held a_sum a_told a_left a_step a_outside a_item v_thrown v_companies v_accounts v_done v_items H.size p0 hw) ⟨(callB_of 1 hts (kx_good iw_547) rfl rfl rfl (hts _ (kx_w iw_4)) (hts _ (kx_w iw_544)) (by decide +kernel) ⟨Nat.le_of_ble_eq_true rfl, Nat.le_of_ble_eq_true rfl⟩), (hts _ (kx_w iw_546)), (hts _ (kx_w sl_M_isCompany))⟩ (kx_preV hN hK hP hD [0] (by decide) rfl 0 rfl rfl) rfl rfl hl.1 rfl (lv_room (Nat.le_of_ble_eq_true rfl)) d_M_minority_10 ⟨Nat.le_of_ble_eq_true rfl, Nat.le_of_ble_eq_true rfl⟩) hP hD hS hA [0] [1] rfl rfl (by decide) (by decide) [1, 0] (by decide) (fun _ => rfl) (fun r10 u10 H locs hw hP hD hS => ?_)
    have hP : va_P (dC, dI) classes (WS_M_minority cI cL cZ h0 a_currency a_sort a_closing a_average a_held a_sum a_told a_left a_step a_outside a_item v_thrown v_companies v_accounts v_done v_items v_outside) H := hP
    have hD : va_D A (WS_M_minority cI cL cZ h0 a_currency a_sort a_closing a_average a_held a_sum a_told a_left a_step a_outside a_item v_thrown v_companies v_accounts v_done v_items v_outside) := hD
    refine lv_if_eq (tgt := 20) hx hb d_M_minority_13 rfl (fun hc => ?_) (fun hc => ?_)
    ·
      have hw := hw.1 hc
      refine lv_iconst (v := 1) hx hb d_M_minority_20 (by decide) ?_
      refine va_put (D := (dC, dI)) (ci := 3) (v := .int 1) (ty := .int) (C := R_M) (T := F_M) (N := 16) hx hb hts (kx_in in_M) t_M t_M_ok n_M hown hK hP hD hS 0 rfl rfl 0 (by decide) (hts _ (kx_w iw_475)) (fun _ h9 => h9) rfl (by decide +kernel) rfl rfl (Nat.le_of_ble_eq_true rfl) d_M_minority_21 (fun H locs hP hD hS => ?_)
      have hP : va_P (dC, dI) classes (WS_M_minority cI cL cZ h0 a_currency a_sort a_closing a_average a_held a_sum a_told a_left a_step a_outside a_item 1 v_companies v_accounts v_done v_items v_outside) H := hP
      have hD : va_D A (WS_M_minority cI cL cZ h0 a_currency a_sort a_closing a_average a_held a_sum a_told a_left a_step a_outside a_item 1 v_companies v_accounts v_done v_items v_outside) := hD
      refine lv_aload_n hx hb d_M_minority_24 rfl (lv_at hl 0 rfl) ?_
      refine va_get (D := (dC, dI)) (ci := 3) (v := .int 1) (C := R_M) (T := F_M) (N := 16) hx hb hts (kx_in in_M) hown hK hP 0 rfl rfl 0 (by decide) (hts _ (kx_w iw_475)) (fun _ h9 => h9) rfl d_M_minority_25 ?_
      refine lv_iconst (v := 1) hx hb d_M_minority_28 (by decide) ?_
      refine lv_icmp_ne (tgt := 36) hx hb d_M_minority_29 rfl (fun hc => ?_) (fun hc => ?_)
      ·
        have hw := hw.1 hc
        refine lv_aload_n hx hb d_M_minority_36 rfl (lv_at hl 0 rfl) ?_
        refine va_get (D := (dC, dI)) (ci := 3) (v := .ref a_outside) (C := R_M) (T := F_M) (N := 16) hx hb hts (kx_in in_M) hown hK hP 0 rfl rfl 13 (by decide) (hts _ (kx_w iw_488)) (fun _ h9 => h9) rfl d_M_minority_37 ?_
        refine lv_iload_n hx hb d_M_minority_40 rfl (lv_at hl 1 rfl) ?_
        obtain ⟨hi, hw⟩ := hw
        refine va_lald hx hb hK hP 1 1 rfl rfl hi d_M_minority_41 ?_
        exact W.lret (v := (v_outside p0.toNatClampNeg)) hx hb hr (fun t ht hW => ⟨⟨(v_outside p0.toNatClampNeg), 1, rfl, hw, ⟨by rw [ht]; exact hP, hD⟩⟩, hS.F ht⟩) hS.2.2 d_M_minority_42
      ·
        have hw := hw.2 hc
        refine lv_lconst (v := 0) hx hb d_M_minority_32 (by decide) ?_
        refine lv_goto (tgt := 42) hx hb d_M_minority_33 rfl ?_
        exact W.lret (v := 0) hx hb hr (fun t ht hW => ⟨⟨0, 1, rfl, hw, ⟨by rw [ht]; exact hP, hD⟩⟩, hS.F ht⟩) hS.2.2 d_M_minority_42
    ·
      have hw := hw.2 hc
      refine lv_iconst (v := 0) hx hb d_M_minority_16 (by decide) ?_
      refine lv_goto (tgt := 21) hx hb d_M_minority_17 rfl ?_
      refine va_put (D := (dC, dI)) (ci := 3) (v := .int 0) (ty := .int) (C := R_M) (T := F_M) (N := 16) hx hb hts (kx_in in_M) t_M t_M_ok n_M hown hK hP hD hS 0 rfl rfl 0 (by decide) (hts _ (kx_w iw_475)) (fun _ h9 => h9) rfl (by decide +kernel) rfl rfl (Nat.le_of_ble_eq_true rfl) d_M_minority_21 (fun H locs hP hD hS => ?_)
      have hP : va_P (dC, dI) classes (WS_M_minority cI cL cZ h0 a_currency a_sort a_closing a_average a_held a_sum a_told a_left a_step a_outside a_item 0 v_companies v_accounts v_done v_items v_outside) H := hP
      have hD : va_D A (WS_M_minority cI cL cZ h0 a_currency a_sort a_closing a_average a_held a_sum a_told a_left a_step a_outside a_item 0 v_companies v_accounts v_done v_items v_outside) := hD
      refine lv_aload_n hx hb d_M_minority_24 rfl (lv_at hl 0 rfl) ?_
      refine va_get (D := (dC, dI)) (ci := 3) (v := .int 0) (C := R_M) (T := F_M) (N := 16) hx hb hts (kx_in in_M) hown hK hP 0 rfl rfl 0 (by decide) (hts _ (kx_w iw_475)) (fun _ h9 => h9) rfl d_M_minority_25 ?_
      refine lv_iconst (v := 1) hx hb d_M_minority_28 (by decide) ?_
      refine lv_icmp_ne (tgt := 36) hx hb d_M_minority_29 rfl (fun hc => ?_) (fun hc => ?_)
      ·
        have hw := hw.1 hc
        refine lv_aload_n hx hb d_M_minority_36 rfl (lv_at hl 0 rfl) ?_
        refine va_get (D := (dC, dI)) (ci := 3) (v := .ref a_outside) (C := R_M) (T := F_M) (N := 16) hx hb hts (kx_in in_M) hown hK hP 0 rfl rfl 13 (by decide) (hts _ (kx_w iw_488)) (fun _ h9 => h9) rfl d_M_minority_37 ?_
        refine lv_iload_n hx hb d_M_minority_40 rfl (lv_at hl 1 rfl) ?_
        obtain ⟨hi, hw⟩ := hw
        refine va_lald hx hb hK hP 1 1 rfl rfl hi d_M_minority_41 ?_
        exact W.lret (v := (v_outside p0.toNatClampNeg)) hx hb hr (fun t ht hW => ⟨⟨(v_outside p0.toNatClampNeg), 0, rfl, hw, ⟨by rw [ht]; exact hP, hD⟩⟩, hS.F ht⟩) hS.2.2 d_M_minority_42
      ·
        have hw := hw.2 hc
        refine lv_lconst (v := 0) hx hb d_M_minority_32 (by decide) ?_
        refine lv_goto (tgt := 42) hx hb d_M_minority_33 rfl ?_
        exact W.lret (v := 0) hx hb hr (fun t ht hW => ⟨⟨0, 0, rfl, hw, ⟨by rw [ht]; exact hP, hD⟩⟩, hS.F ht⟩) hS.2.2 d_M_minority_42
/-! ConsolidationDeskModel.openItems()I -/
abbrev y_M_openItems : MethodName := ⟨"ConsolidationDeskModel", "openItems", "()I"⟩
theorem d_M_openItems_0 : decode prog_5_method_34_code 0 = .ok (.aload_n 0, 1) := by decide +kernel
theorem d_M_openItems_1 : decode prog_5_method_34_code 1 = .ok (.iconst 0, 1) := by decide +kernel
theorem d_M_openItems_2 : decode prog_5_method_34_code 2 = .ok (.putfield 49, 3) := by decide +kernel
theorem d_M_openItems_5 : decode prog_5_method_34_code 5 = .ok (.aload_n 0, 1) := by decide +kernel
theorem d_M_openItems_6 : decode prog_5_method_34_code 6 = .ok (.getfield 119, 3) := by decide +kernel
theorem d_M_openItems_9 : decode prog_5_method_34_code 9 = .ok (.ifCond .eq 10, 3) := by decide +kernel
theorem d_M_openItems_12 : decode prog_5_method_34_code 12 = .ok (.aload_n 0, 1) := by decide +kernel
theorem d_M_openItems_13 : decode prog_5_method_34_code 13 = .ok (.getfield 131, 3) := by decide +kernel
theorem d_M_openItems_16 : decode prog_5_method_34_code 16 = .ok (.goto 4, 3) := by decide +kernel
theorem d_M_openItems_19 : decode prog_5_method_34_code 19 = .ok (.iconst 0, 1) := by decide +kernel
theorem d_M_openItems_20 : decode prog_5_method_34_code 20 = .ok (.ireturn, 1) := by decide +kernel
abbrev WS_M_openItems (cI cL cZ : ClassId)  (h0 a_currency a_sort a_closing a_average a_held a_sum a_told a_left a_step a_outside a_item : Nat) (v_thrown : Int32) (v_companies : Int32) (v_accounts : Int32) (v_done : Int32) (v_items : Int32) : va_W := [(h0, .inr (3, [.int v_thrown, .int v_companies, .int v_accounts, .ref a_currency, .ref a_sort, .ref a_closing, .ref a_average, .ref a_held, .ref a_sum, .ref a_told, .int v_done, .ref a_left, .ref a_step, .ref a_outside, .int v_items, .ref a_item]))]
def wp_M_openItems   (v_thrown : Int32) (v_done : Int32) (v_items : Int32) (post : Int32 → Int32 → Prop) : Prop := ((v_done = 0 → post 0 0) ∧ (¬ v_done = 0 → post v_items 0))
abbrev ws_M_openItems : List Cond := .code y_M_openItems prog_5_method_34_code 1 (some .int) :: kxW
abbrev rm_M_openItems : Room := { frames := 0, cells := 0, slots := 0, locals := 0 }
abbrev QC_M_openItems (dC : Nat → ClassId) (dI : Nat → Nat → Nat) (cI cL cZ : ClassId) (A : Nat → Prop)  (h0 a_currency a_sort a_closing a_average a_held a_sum a_told a_left a_step a_outside a_item : Nat) (v_thrown : Int32) (v_companies : Int32) (v_accounts : Int32) (v_done : Int32) (v_items : Int32) (post : Int32 → Int32 → Prop) : Array Value → State → Outcome → State → Prop := va_Qi post (fun (u : Int32) t => kx_B (dC, dI) classes A (WS_M_openItems cI cL cZ h0 a_currency a_sort a_closing a_average a_held a_sum a_told a_left a_step a_outside a_item u v_companies v_accounts v_done v_items) t) A
set_option maxHeartbeats 4000000 in
set_option maxRecDepth 100000 in
theorem c_M_openItems (l : Launch) (dC : Nat → ClassId) (dI : Nat → Nat → Nat) (cI cL cZ : ClassId)  (h0 a_currency a_sort a_closing a_average a_held a_sum a_told a_left a_step a_outside a_item : Nat) (v_thrown : Int32) (v_companies : Int32) (v_accounts : Int32) (v_done : Int32) (v_items : Int32) (sz : Nat)  {post : Int32 → Int32 → Prop} (hw : wp_M_openItems v_thrown v_done v_items post) : Met l y_M_openItems ws_M_openItems rm_M_openItems (kx_Pc (dC, dI) classes (kx_T cI cL cZ) (WS_M_openItems cI cL cZ h0 a_currency a_sort a_closing a_average a_held a_sum a_told a_left a_step a_outside a_item v_thrown v_companies v_accounts v_done v_items) sz [.ref h0]) (QC_M_openItems dC dI cI cL cZ (va_A (WS_M_openItems cI cL cZ h0 a_currency a_sort a_closing a_average a_held a_sum a_told a_left a_step a_outside a_item v_thrown v_companies v_accounts v_done v_items) sz) h0 a_currency a_sort a_closing a_average a_held a_sum a_told a_left a_step a_outside a_item v_thrown v_companies v_accounts v_done v_items post) 0 0 (va_A (WS_M_openItems cI cL cZ h0 a_currency a_sort a_closing a_average a_held a_sum a_told a_left a_step a_outside a_item v_thrown v_companies v_accounts v_done v_items) sz) := by
  refine Met.ofW (cc := prog_5_method_34_code) (maxL := 1) (ret := (some .int)) (by decide) rfl ?_
  intro p e s m args below meth c s₁ B hml hv
  obtain ⟨rfl, hsz, hP, hK, hD0, hN⟩ := hv
  have hx := B.exec
  have hb := B.bytes
  have hr := B.returns
  have hts := atoms_spec (ws := ws_M_openItems) B.pre
  have hown : s.vm.findClass R_M = some m.cls := findClass_of_methodNamed B.named
  have hlocks := B.notSynchronized
  subst hsz
  have hD := hD0.self (sz := s.heap.size)
  generalize hAe : va_A (WS_M_openItems cI cL cZ h0 a_currency a_sort a_closing a_average a_held a_sum a_told a_left a_step a_outside a_item v_thrown v_companies v_accounts v_done v_items) s.heap.size = A at hD ⊢
  have hA : ∀ q : Nat, s.heap.size ≤ q → A q := fun q h => by rw [← hAe]; exact Or.inr h
  have hS : va_S A s.heap s.heap [] := va_S.rf
  have hP : va_P (dC, dI) classes (WS_M_openItems cI cL cZ h0 a_currency a_sort a_closing a_average a_held a_sum a_told a_left a_step a_outside a_item v_thrown v_companies v_accounts v_done v_items) s.heap := hP
  have hl := lv_entry ([.ref h0]) (n := 1) (Nat.le_of_ble_eq_true rfl)
  rw [lg_entry_eq]
  generalize (lg_sl ([.ref h0]) ++ List.replicate (1 - (lg_sl ([.ref h0])).length) Slot.unset).toArray = ls at hl ⊢
  have hl : lv_has ls 1 [(0, .ref h0)] := hl
  unfold wp_M_openItems at hw
  refine (show ∀ (H : Heap) (locs : List Loc), va_P (dC, dI) classes (WS_M_openItems cI cL cZ h0 a_currency a_sort a_closing a_average a_held a_sum a_told a_left a_step a_outside a_item v_thrown v_companies v_accounts v_done v_items) H → va_S A s.heap H locs → W p l e (headSpec ws_M_openItems rm_M_openItems).room s m ([.ref h0] : List Value).toArray below meth c H locs 0 0 (MQ below (QC_M_openItems dC dI cI cL cZ A h0 a_currency a_sort a_closing a_average a_held a_sum a_told a_left a_step a_outside a_item v_thrown v_companies v_accounts v_done v_items post) ([.ref h0] : List Value).toArray s 0 0 A) (F0 m 0 ls []) from ?_) _ _ hP hS
  intro H locs hP hS
  refine lv_aload_n hx hb d_M_openItems_0 rfl (lv_at hl 0 rfl) ?_
  refine lv_iconst (v := 0) hx hb d_M_openItems_1 (by decide) ?_
  refine va_put (D := (dC, dI)) (ci := 3) (v := .int 0) (ty := .int) (C := R_M) (T := F_M) (N := 16) hx hb hts (kx_in in_M) t_M t_M_ok n_M hown hK hP hD hS 0 rfl rfl 0 (by decide) (hts _ (kx_w iw_475)) (fun _ h9 => h9) rfl (by decide +kernel) rfl rfl (Nat.le_of_ble_eq_true rfl) d_M_openItems_2 (fun H locs hP hD hS => ?_)
  have hP : va_P (dC, dI) classes (WS_M_openItems cI cL cZ h0 a_currency a_sort a_closing a_average a_held a_sum a_told a_left a_step a_outside a_item 0 v_companies v_accounts v_done v_items) H := hP
  have hD : va_D A (WS_M_openItems cI cL cZ h0 a_currency a_sort a_closing a_average a_held a_sum a_told a_left a_step a_outside a_item 0 v_companies v_accounts v_done v_items) := hD
  refine lv_aload_n hx hb d_M_openItems_5 rfl (lv_at hl 0 rfl) ?_
  refine va_get (D := (dC, dI)) (ci := 3) (v := .int v_done) (C := R_M) (T := F_M) (N := 16) hx hb hts (kx_in in_M) hown hK hP 0 rfl rfl 10 (by decide) (hts _ (kx_w iw_485)) (fun _ h9 => h9) rfl d_M_openItems_6 ?_
  refine lv_if_eq (tgt := 19) hx hb d_M_openItems_9 rfl (fun hc => ?_) (fun hc => ?_)
  ·
    have hw := hw.1 hc
    refine lv_iconst (v := 0) hx hb d_M_openItems_19 (by decide) ?_
    exact W.iret (v := 0) hx hb hr (fun t ht hW => ⟨⟨0, 0, rfl, hw, ⟨by rw [ht]; exact hP, hD⟩⟩, hS.F ht⟩) hS.2.2 d_M_openItems_20
  ·
    have hw := hw.2 hc
    refine lv_aload_n hx hb d_M_openItems_12 rfl (lv_at hl 0 rfl) ?_
    refine va_get (D := (dC, dI)) (ci := 3) (v := .int v_items) (C := R_M) (T := F_M) (N := 16) hx hb hts (kx_in in_M) hown hK hP 0 rfl rfl 14 (by decide) (hts _ (kx_w iw_489)) (fun _ h9 => h9) rfl d_M_openItems_13 ?_
    refine lv_goto (tgt := 20) hx hb d_M_openItems_16 rfl ?_
    exact W.iret (v := v_items) hx hb hr (fun t ht hW => ⟨⟨v_items, 0, rfl, hw, ⟨by rw [ht]; exact hP, hD⟩⟩, hS.F ht⟩) hS.2.2 d_M_openItems_20
/-! ConsolidationDeskModel.openItem(II)J -/
abbrev y_M_openItem : MethodName := ⟨"ConsolidationDeskModel", "openItem", "(II)J"⟩
theorem d_M_openItem_0 : decode prog_5_method_35_code 0 = .ok (.aload_n 0, 1) := by decide +kernel
theorem d_M_openItem_1 : decode prog_5_method_35_code 1 = .ok (.aload_n 0, 1) := by decide +kernel
theorem d_M_openItem_2 : decode prog_5_method_35_code 2 = .ok (.getfield 119, 3) := by decide +kernel
theorem d_M_openItem_5 : decode prog_5_method_35_code 5 = .ok (.ifCond .eq 28, 3) := by decide +kernel
theorem d_M_openItem_8 : decode prog_5_method_35_code 8 = .ok (.iload_n 1, 1) := by decide +kernel
theorem d_M_openItem_9 : decode prog_5_method_35_code 9 = .ok (.ifCond .lt 24, 3) := by decide +kernel
theorem d_M_openItem_12 : decode prog_5_method_35_code 12 = .ok (.iload_n 1, 1) := by decide +kernel
theorem d_M_openItem_13 : decode prog_5_method_35_code 13 = .ok (.aload_n 0, 1) := by decide +kernel
theorem d_M_openItem_14 : decode prog_5_method_35_code 14 = .ok (.getfield 131, 3) := by decide +kernel
theorem d_M_openItem_17 : decode prog_5_method_35_code 17 = .ok (.if_icmp .ge 16, 3) := by decide +kernel
theorem d_M_openItem_20 : decode prog_5_method_35_code 20 = .ok (.iload_n 2, 1) := by decide +kernel
theorem d_M_openItem_21 : decode prog_5_method_35_code 21 = .ok (.ifCond .lt 12, 3) := by decide +kernel
theorem d_M_openItem_24 : decode prog_5_method_35_code 24 = .ok (.iload_n 2, 1) := by decide +kernel
theorem d_M_openItem_25 : decode prog_5_method_35_code 25 = .ok (.iconst 4, 1) := by decide +kernel
theorem d_M_openItem_26 : decode prog_5_method_35_code 26 = .ok (.if_icmp .ge 7, 3) := by decide +kernel
theorem d_M_openItem_29 : decode prog_5_method_35_code 29 = .ok (.iconst 0, 1) := by decide +kernel
theorem d_M_openItem_30 : decode prog_5_method_35_code 30 = .ok (.goto 4, 3) := by decide +kernel
theorem d_M_openItem_33 : decode prog_5_method_35_code 33 = .ok (.iconst 1, 1) := by decide +kernel
theorem d_M_openItem_34 : decode prog_5_method_35_code 34 = .ok (.putfield 49, 3) := by decide +kernel
theorem d_M_openItem_37 : decode prog_5_method_35_code 37 = .ok (.aload_n 0, 1) := by decide +kernel
theorem d_M_openItem_38 : decode prog_5_method_35_code 38 = .ok (.getfield 49, 3) := by decide +kernel
theorem d_M_openItem_41 : decode prog_5_method_35_code 41 = .ok (.iconst 1, 1) := by decide +kernel
theorem d_M_openItem_42 : decode prog_5_method_35_code 42 = .ok (.if_icmp .ne 7, 3) := by decide +kernel
theorem d_M_openItem_45 : decode prog_5_method_35_code 45 = .ok (.lconst 0, 1) := by decide +kernel
theorem d_M_openItem_46 : decode prog_5_method_35_code 46 = .ok (.goto 13, 3) := by decide +kernel
theorem d_M_openItem_49 : decode prog_5_method_35_code 49 = .ok (.aload_n 0, 1) := by decide +kernel
theorem d_M_openItem_50 : decode prog_5_method_35_code 50 = .ok (.getfield 41, 3) := by decide +kernel
theorem d_M_openItem_53 : decode prog_5_method_35_code 53 = .ok (.iconst 4, 1) := by decide +kernel
theorem d_M_openItem_54 : decode prog_5_method_35_code 54 = .ok (.iload_n 1, 1) := by decide +kernel
theorem d_M_openItem_55 : decode prog_5_method_35_code 55 = .ok (.imul, 1) := by decide +kernel
theorem d_M_openItem_56 : decode prog_5_method_35_code 56 = .ok (.iload_n 2, 1) := by decide +kernel
theorem d_M_openItem_57 : decode prog_5_method_35_code 57 = .ok (.iadd, 1) := by decide +kernel
theorem d_M_openItem_58 : decode prog_5_method_35_code 58 = .ok (.laload, 1) := by decide +kernel
theorem d_M_openItem_59 : decode prog_5_method_35_code 59 = .ok (.lreturn, 1) := by decide +kernel
abbrev WS_M_openItem (cI cL cZ : ClassId)  (h0 a_currency a_sort a_closing a_average a_held a_sum a_told a_left a_step a_outside a_item : Nat) (v_thrown : Int32) (v_companies : Int32) (v_accounts : Int32) (v_done : Int32) (v_items : Int32) (v_item : (Nat → Int64)) : va_W := [(h0, .inr (3, [.int v_thrown, .int v_companies, .int v_accounts, .ref a_currency, .ref a_sort, .ref a_closing, .ref a_average, .ref a_held, .ref a_sum, .ref a_told, .int v_done, .ref a_left, .ref a_step, .ref a_outside, .int v_items, .ref a_item])), (a_item, .inl (cL, 6400, .inr (.inl v_item)))]
def wp_M_openItem  (p0 : Int32) (p1 : Int32) (v_thrown : Int32) (v_done : Int32) (v_items : Int32) (v_item : (Nat → Int64)) (post : Int64 → Int32 → Prop) : Prop := ((v_done = 0 → ((¬ (1 : Int32) = 1 → (vp_in ((4 * p0) + p1) 6400 ∧ post (v_item (Int32.toNatClampNeg ((4 * p0) + p1))) 1)) ∧ ((1 : Int32) = 1 → post 0 1))) ∧ (¬ v_done = 0 → ((p0 < 0 → ((¬ (1 : Int32) = 1 → (vp_in ((4 * p0) + p1) 6400 ∧ post (v_item (Int32.toNatClampNeg ((4 * p0) + p1))) 1)) ∧ ((1 : Int32) = 1 → post 0 1))) ∧ (¬ p0 < 0 → ((v_items ≤ p0 → ((¬ (1 : Int32) = 1 → (vp_in ((4 * p0) + p1) 6400 ∧ post (v_item (Int32.toNatClampNeg ((4 * p0) + p1))) 1)) ∧ ((1 : Int32) = 1 → post 0 1))) ∧ (¬ v_items ≤ p0 → ((p1 < 0 → ((¬ (1 : Int32) = 1 → (vp_in ((4 * p0) + p1) 6400 ∧ post (v_item (Int32.toNatClampNeg ((4 * p0) + p1))) 1)) ∧ ((1 : Int32) = 1 → post 0 1))) ∧ (¬ p1 < 0 → ((4 ≤ p1 → ((¬ (1 : Int32) = 1 → (vp_in ((4 * p0) + p1) 6400 ∧ post (v_item (Int32.toNatClampNeg ((4 * p0) + p1))) 1)) ∧ ((1 : Int32) = 1 → post 0 1))) ∧ (¬ 4 ≤ p1 → ((¬ (0 : Int32) = 1 → (vp_in ((4 * p0) + p1) 6400 ∧ post (v_item (Int32.toNatClampNeg ((4 * p0) + p1))) 0)) ∧ ((0 : Int32) = 1 → post 0 0))))))))))))
abbrev ws_M_openItem : List Cond := .code y_M_openItem prog_5_method_35_code 3 (some .long) :: kxW
abbrev rm_M_openItem : Room := { frames := 0, cells := 0, slots := 0, locals := 0 }
abbrev QC_M_openItem (dC : Nat → ClassId) (dI : Nat → Nat → Nat) (cI cL cZ : ClassId) (A : Nat → Prop)  (h0 a_currency a_sort a_closing a_average a_held a_sum a_told a_left a_step a_outside a_item : Nat) (v_thrown : Int32) (v_companies : Int32) (v_accounts : Int32) (v_done : Int32) (v_items : Int32) (v_item : (Nat → Int64)) (post : Int64 → Int32 → Prop) : Array Value → State → Outcome → State → Prop := va_Ql post (fun (u : Int32) t => kx_B (dC, dI) classes A (WS_M_openItem cI cL cZ h0 a_currency a_sort a_closing a_average a_held a_sum a_told a_left a_step a_outside a_item u v_companies v_accounts v_done v_items v_item) t) A
set_option maxHeartbeats 4000000 in
set_option maxRecDepth 100000 in
theorem c_M_openItem (l : Launch) (dC : Nat → ClassId) (dI : Nat → Nat → Nat) (cI cL cZ : ClassId)  (h0 a_currency a_sort a_closing a_average a_held a_sum a_told a_left a_step a_outside a_item : Nat) (v_thrown : Int32) (v_companies : Int32) (v_accounts : Int32) (v_done : Int32) (v_items : Int32) (v_item : (Nat → Int64)) (sz : Nat) (p0 : Int32) (p1 : Int32) {post : Int64 → Int32 → Prop} (hw : wp_M_openItem p0 p1 v_thrown v_done v_items v_item post) : Met l y_M_openItem ws_M_openItem rm_M_openItem (kx_Pc (dC, dI) classes (kx_T cI cL cZ) (WS_M_openItem cI cL cZ h0 a_currency a_sort a_closing a_average a_held a_sum a_told a_left a_step a_outside a_item v_thrown v_companies v_accounts v_done v_items v_item) sz [.ref h0, .int p0, .int p1]) (QC_M_openItem dC dI cI cL cZ (va_A (WS_M_openItem cI cL cZ h0 a_currency a_sort a_closing a_average a_held a_sum a_told a_left a_step a_outside a_item v_thrown v_companies v_accounts v_done v_items v_item) sz) h0 a_currency a_sort a_closing a_average a_held a_sum a_told a_left a_step a_outside a_item v_thrown v_companies v_accounts v_done v_items v_item post) 0 0 (va_A (WS_M_openItem cI cL cZ h0 a_currency a_sort a_closing a_average a_held a_sum a_told a_left a_step a_outside a_item v_thrown v_companies v_accounts v_done v_items v_item) sz) := by
  refine Met.ofW (cc := prog_5_method_35_code) (maxL := 3) (ret := (some .long)) (by decide) rfl ?_
  intro p e s m args below meth c s₁ B hml hv
  obtain ⟨rfl, hsz, hP, hK, hD0, hN⟩ := hv
  have hx := B.exec
  have hb := B.bytes
  have hr := B.returns
  have hts := atoms_spec (ws := ws_M_openItem) B.pre
  have hown : s.vm.findClass R_M = some m.cls := findClass_of_methodNamed B.named
  have hlocks := B.notSynchronized
  subst hsz
  have hD := hD0.self (sz := s.heap.size)
  generalize hAe : va_A (WS_M_openItem cI cL cZ h0 a_currency a_sort a_closing a_average a_held a_sum a_told a_left a_step a_outside a_item v_thrown v_companies v_accounts v_done v_items v_item) s.heap.size = A at hD ⊢
  have hA : ∀ q : Nat, s.heap.size ≤ q → A q := fun q h => by rw [← hAe]; exact Or.inr h
  have hS : va_S A s.heap s.heap [] := va_S.rf
  have hP : va_P (dC, dI) classes (WS_M_openItem cI cL cZ h0 a_currency a_sort a_closing a_average a_held a_sum a_told a_left a_step a_outside a_item v_thrown v_companies v_accounts v_done v_items v_item) s.heap := hP
  have hl := lv_entry ([.ref h0, .int p0, .int p1]) (n := 3) (Nat.le_of_ble_eq_true rfl)
  rw [lg_entry_eq]
  generalize (lg_sl ([.ref h0, .int p0, .int p1]) ++ List.replicate (3 - (lg_sl ([.ref h0, .int p0, .int p1])).length) Slot.unset).toArray = ls at hl ⊢
  have hl : lv_has ls 3 [(0, .ref h0), (1, .int p0), (2, .int p1)] := hl
  unfold wp_M_openItem at hw
  refine (show ∀ (H : Heap) (locs : List Loc), va_P (dC, dI) classes (WS_M_openItem cI cL cZ h0 a_currency a_sort a_closing a_average a_held a_sum a_told a_left a_step a_outside a_item v_thrown v_companies v_accounts v_done v_items v_item) H → va_S A s.heap H locs → W p l e (headSpec ws_M_openItem rm_M_openItem).room s m ([.ref h0, .int p0, .int p1] : List Value).toArray below meth c H locs 0 0 (MQ below (QC_M_openItem dC dI cI cL cZ A h0 a_currency a_sort a_closing a_average a_held a_sum a_told a_left a_step a_outside a_item v_thrown v_companies v_accounts v_done v_items v_item post) ([.ref h0, .int p0, .int p1] : List Value).toArray s 0 0 A) (F0 m 0 ls []) from ?_) _ _ hP hS
  intro H locs hP hS
  refine lv_aload_n hx hb d_M_openItem_0 rfl (lv_at hl 0 rfl) ?_
  refine lv_aload_n hx hb d_M_openItem_1 rfl (lv_at hl 0 rfl) ?_
  refine va_get (D := (dC, dI)) (ci := 3) (v := .int v_done) (C := R_M) (T := F_M) (N := 16) hx hb hts (kx_in in_M) hown hK hP 0 rfl rfl 10 (by decide) (hts _ (kx_w iw_485)) (fun _ h9 => h9) rfl d_M_openItem_2 ?_
  refine lv_if_eq (tgt := 33) hx hb d_M_openItem_5 rfl (fun hc => ?_) (fun hc => ?_)
  ·
    have hw := hw.1 hc
    refine lv_iconst (v := 1) hx hb d_M_openItem_33 (by decide) ?_
    refine va_put (D := (dC, dI)) (ci := 3) (v := .int 1) (ty := .int) (C := R_M) (T := F_M) (N := 16) hx hb hts (kx_in in_M) t_M t_M_ok n_M hown hK hP hD hS 0 rfl rfl 0 (by decide) (hts _ (kx_w iw_475)) (fun _ h9 => h9) rfl (by decide +kernel) rfl rfl (Nat.le_of_ble_eq_true rfl) d_M_openItem_34 (fun H locs hP hD hS => ?_)
    have hP : va_P (dC, dI) classes (WS_M_openItem cI cL cZ h0 a_currency a_sort a_closing a_average a_held a_sum a_told a_left a_step a_outside a_item 1 v_companies v_accounts v_done v_items v_item) H := hP
    have hD : va_D A (WS_M_openItem cI cL cZ h0 a_currency a_sort a_closing a_average a_held a_sum a_told a_left a_step a_outside a_item 1 v_companies v_accounts v_done v_items v_item) := hD
    refine lv_aload_n hx hb d_M_openItem_37 rfl (lv_at hl 0 rfl) ?_
    refine va_get (D := (dC, dI)) (ci := 3) (v := .int 1) (C := R_M) (T := F_M) (N := 16) hx hb hts (kx_in in_M) hown hK hP 0 rfl rfl 0 (by decide) (hts _ (kx_w iw_475)) (fun _ h9 => h9) rfl d_M_openItem_38 ?_
    refine lv_iconst (v := 1) hx hb d_M_openItem_41 (by decide) ?_
    refine lv_icmp_ne (tgt := 49) hx hb d_M_openItem_42 rfl (fun hc => ?_) (fun hc => ?_)
    ·
      have hw := hw.1 hc
      refine lv_aload_n hx hb d_M_openItem_49 rfl (lv_at hl 0 rfl) ?_
      refine va_get (D := (dC, dI)) (ci := 3) (v := .ref a_item) (C := R_M) (T := F_M) (N := 16) hx hb hts (kx_in in_M) hown hK hP 0 rfl rfl 15 (by decide) (hts _ (kx_w iw_490)) (fun _ h9 => h9) rfl d_M_openItem_50 ?_
      refine lv_iconst (v := 4) hx hb d_M_openItem_53 (by decide) ?_
      refine lv_iload_n hx hb d_M_openItem_54 rfl (lv_at hl 1 rfl) ?_
      refine lv_imul hx hb d_M_openItem_55 ?_
      refine lv_iload_n hx hb d_M_openItem_56 rfl (lv_at hl 2 rfl) ?_
      refine lv_iadd hx hb d_M_openItem_57 ?_
      obtain ⟨hi, hw⟩ := hw
      refine va_lald hx hb hK hP 1 1 rfl rfl hi d_M_openItem_58 ?_
      exact W.lret (v := (v_item (Int32.toNatClampNeg ((4 * p0) + p1)))) hx hb hr (fun t ht hW => ⟨⟨(v_item (Int32.toNatClampNeg ((4 * p0) + p1))), 1, rfl, hw, ⟨by rw [ht]; exact hP, hD⟩⟩, hS.F ht⟩) hS.2.2 d_M_openItem_59
    ·
      have hw := hw.2 hc
      refine lv_lconst (v := 0) hx hb d_M_openItem_45 (by decide) ?_
      refine lv_goto (tgt := 59) hx hb d_M_openItem_46 rfl ?_
      exact W.lret (v := 0) hx hb hr (fun t ht hW => ⟨⟨0, 1, rfl, hw, ⟨by rw [ht]; exact hP, hD⟩⟩, hS.F ht⟩) hS.2.2 d_M_openItem_59
  ·
    have hw := hw.2 hc
    refine lv_iload_n hx hb d_M_openItem_8 rfl (lv_at hl 1 rfl) ?_
    refine lv_if_lt (tgt := 33) hx hb d_M_openItem_9 rfl (fun hc => ?_) (fun hc => ?_)
    ·
      have hw := hw.1 hc
      refine lv_iconst (v := 1) hx hb d_M_openItem_33 (by decide) ?_
      refine va_put (D := (dC, dI)) (ci := 3) (v := .int 1) (ty := .int) (C := R_M) (T := F_M) (N := 16) hx hb hts (kx_in in_M) t_M t_M_ok n_M hown hK hP hD hS 0 rfl rfl 0 (by decide) (hts _ (kx_w iw_475)) (fun _ h9 => h9) rfl (by decide +kernel) rfl rfl (Nat.le_of_ble_eq_true rfl) d_M_openItem_34 (fun H locs hP hD hS => ?_)
      have hP : va_P (dC, dI) classes (WS_M_openItem cI cL cZ h0 a_currency a_sort a_closing a_average a_held a_sum a_told a_left a_step a_outside a_item 1 v_companies v_accounts v_done v_items v_item) H := hP
      have hD : va_D A (WS_M_openItem cI cL cZ h0 a_currency a_sort a_closing a_average a_held a_sum a_told a_left a_step a_outside a_item 1 v_companies v_accounts v_done v_items v_item) := hD
      refine lv_aload_n hx hb d_M_openItem_37 rfl (lv_at hl 0 rfl) ?_
      refine va_get (D := (dC, dI)) (ci := 3) (v := .int 1) (C := R_M) (T := F_M) (N := 16) hx hb hts (kx_in in_M) hown hK hP 0 rfl rfl 0 (by decide) (hts _ (kx_w iw_475)) (fun _ h9 => h9) rfl d_M_openItem_38 ?_
      refine lv_iconst (v := 1) hx hb d_M_openItem_41 (by decide) ?_
      refine lv_icmp_ne (tgt := 49) hx hb d_M_openItem_42 rfl (fun hc => ?_) (fun hc => ?_)
      ·
        have hw := hw.1 hc
        refine lv_aload_n hx hb d_M_openItem_49 rfl (lv_at hl 0 rfl) ?_
        refine va_get (D := (dC, dI)) (ci := 3) (v := .ref a_item) (C := R_M) (T := F_M) (N := 16) hx hb hts (kx_in in_M) hown hK hP 0 rfl rfl 15 (by decide) (hts _ (kx_w iw_490)) (fun _ h9 => h9) rfl d_M_openItem_50 ?_
        refine lv_iconst (v := 4) hx hb d_M_openItem_53 (by decide) ?_
        refine lv_iload_n hx hb d_M_openItem_54 rfl (lv_at hl 1 rfl) ?_
        refine lv_imul hx hb d_M_openItem_55 ?_
        refine lv_iload_n hx hb d_M_openItem_56 rfl (lv_at hl 2 rfl) ?_
        refine lv_iadd hx hb d_M_openItem_57 ?_
        obtain ⟨hi, hw⟩ := hw
        refine va_lald hx hb hK hP 1 1 rfl rfl hi d_M_openItem_58 ?_
        exact W.lret (v := (v_item (Int32.toNatClampNeg ((4 * p0) + p1)))) hx hb hr (fun t ht hW => ⟨⟨(v_item (Int32.toNatClampNeg ((4 * p0) + p1))), 1, rfl, hw, ⟨by rw [ht]; exact hP, hD⟩⟩, hS.F ht⟩) hS.2.2 d_M_openItem_59
      ·
        have hw := hw.2 hc
        refine lv_lconst (v := 0) hx hb d_M_openItem_45 (by decide) ?_
        refine lv_goto (tgt := 59) hx hb d_M_openItem_46 rfl ?_
        exact W.lret (v := 0) hx hb hr (fun t ht hW => ⟨⟨0, 1, rfl, hw, ⟨by rw [ht]; exact hP, hD⟩⟩, hS.F ht⟩) hS.2.2 d_M_openItem_59
    ·
      have hw := hw.2 hc
      refine lv_iload_n hx hb d_M_openItem_12 rfl (lv_at hl 1 rfl) ?_
      refine lv_aload_n hx hb d_M_openItem_13 rfl (lv_at hl 0 rfl) ?_
      refine va_get (D := (dC, dI)) (ci := 3) (v := .int v_items) (C := R_M) (T := F_M) (N := 16) hx hb hts (kx_in in_M) hown hK hP 0 rfl rfl 14 (by decide) (hts _ (kx_w iw_489)) (fun _ h9 => h9) rfl d_M_openItem_14 ?_
      refine lv_icmp_ge (tgt := 33) hx hb d_M_openItem_17 rfl (fun hc => ?_) (fun hc => ?_)
      ·
        have hw := hw.1 hc
        refine lv_iconst (v := 1) hx hb d_M_openItem_33 (by decide) ?_
        refine va_put (D := (dC, dI)) (ci := 3) (v := .int 1) (ty := .int) (C := R_M) (T := F_M) (N := 16) hx hb hts (kx_in in_M) t_M t_M_ok n_M hown hK hP hD hS 0 rfl rfl 0 (by decide) (hts _ (kx_w iw_475)) (fun _ h9 => h9) rfl (by decide +kernel) rfl rfl (Nat.le_of_ble_eq_true rfl) d_M_openItem_34 (fun H locs hP hD hS => ?_)
        have hP : va_P (dC, dI) classes (WS_M_openItem cI cL cZ h0 a_currency a_sort a_closing a_average a_held a_sum a_told a_left a_step a_outside a_item 1 v_companies v_accounts v_done v_items v_item) H := hP
        have hD : va_D A (WS_M_openItem cI cL cZ h0 a_currency a_sort a_closing a_average a_held a_sum a_told a_left a_step a_outside a_item 1 v_companies v_accounts v_done v_items v_item) := hD
        refine lv_aload_n hx hb d_M_openItem_37 rfl (lv_at hl 0 rfl) ?_
        refine va_get (D := (dC, dI)) (ci := 3) (v := .int 1) (C := R_M) (T := F_M) (N := 16) hx hb hts (kx_in in_M) hown hK hP 0 rfl rfl 0 (by decide) (hts _ (kx_w iw_475)) (fun _ h9 => h9) rfl d_M_openItem_38 ?_
        refine lv_iconst (v := 1) hx hb d_M_openItem_41 (by decide) ?_
        refine lv_icmp_ne (tgt := 49) hx hb d_M_openItem_42 rfl (fun hc => ?_) (fun hc => ?_)
        ·
          have hw := hw.1 hc
          refine lv_aload_n hx hb d_M_openItem_49 rfl (lv_at hl 0 rfl) ?_
          refine va_get (D := (dC, dI)) (ci := 3) (v := .ref a_item) (C := R_M) (T := F_M) (N := 16) hx hb hts (kx_in in_M) hown hK hP 0 rfl rfl 15 (by decide) (hts _ (kx_w iw_490)) (fun _ h9 => h9) rfl d_M_openItem_50 ?_
          refine lv_iconst (v := 4) hx hb d_M_openItem_53 (by decide) ?_
          refine lv_iload_n hx hb d_M_openItem_54 rfl (lv_at hl 1 rfl) ?_
          refine lv_imul hx hb d_M_openItem_55 ?_
          refine lv_iload_n hx hb d_M_openItem_56 rfl (lv_at hl 2 rfl) ?_
          refine lv_iadd hx hb d_M_openItem_57 ?_
          obtain ⟨hi, hw⟩ := hw
          refine va_lald hx hb hK hP 1 1 rfl rfl hi d_M_openItem_58 ?_
          exact W.lret (v := (v_item (Int32.toNatClampNeg ((4 * p0) + p1)))) hx hb hr (fun t ht hW => ⟨⟨(v_item (Int32.toNatClampNeg ((4 * p0) + p1))), 1, rfl, hw, ⟨by rw [ht]; exact hP, hD⟩⟩, hS.F ht⟩) hS.2.2 d_M_openItem_59
        ·
          have hw := hw.2 hc
          refine lv_lconst (v := 0) hx hb d_M_openItem_45 (by decide) ?_
          refine lv_goto (tgt := 59) hx hb d_M_openItem_46 rfl ?_
          exact W.lret (v := 0) hx hb hr (fun t ht hW => ⟨⟨0, 1, rfl, hw, ⟨by rw [ht]; exact hP, hD⟩⟩, hS.F ht⟩) hS.2.2 d_M_openItem_59
      ·
        have hw := hw.2 hc
        refine lv_iload_n hx hb d_M_openItem_20 rfl (lv_at hl 2 rfl) ?_
        refine lv_if_lt (tgt := 33) hx hb d_M_openItem_21 rfl (fun hc => ?_) (fun hc => ?_)
        ·
          have hw := hw.1 hc
          refine lv_iconst (v := 1) hx hb d_M_openItem_33 (by decide) ?_
          refine va_put (D := (dC, dI)) (ci := 3) (v := .int 1) (ty := .int) (C := R_M) (T := F_M) (N := 16) hx hb hts (kx_in in_M) t_M t_M_ok n_M hown hK hP hD hS 0 rfl rfl 0 (by decide) (hts _ (kx_w iw_475)) (fun _ h9 => h9) rfl (by decide +kernel) rfl rfl (Nat.le_of_ble_eq_true rfl) d_M_openItem_34 (fun H locs hP hD hS => ?_)
          have hP : va_P (dC, dI) classes (WS_M_openItem cI cL cZ h0 a_currency a_sort a_closing a_average a_held a_sum a_told a_left a_step a_outside a_item 1 v_companies v_accounts v_done v_items v_item) H := hP
          have hD : va_D A (WS_M_openItem cI cL cZ h0 a_currency a_sort a_closing a_average a_held a_sum a_told a_left a_step a_outside a_item 1 v_companies v_accounts v_done v_items v_item) := hD
          refine lv_aload_n hx hb d_M_openItem_37 rfl (lv_at hl 0 rfl) ?_
          refine va_get (D := (dC, dI)) (ci := 3) (v := .int 1) (C := R_M) (T := F_M) (N := 16) hx hb hts (kx_in in_M) hown hK hP 0 rfl rfl 0 (by decide) (hts _ (kx_w iw_475)) (fun _ h9 => h9) rfl d_M_openItem_38 ?_
          refine lv_iconst (v := 1) hx hb d_M_openItem_41 (by decide) ?_
          refine lv_icmp_ne (tgt := 49) hx hb d_M_openItem_42 rfl (fun hc => ?_) (fun hc => ?_)
          ·
            have hw := hw.1 hc
            refine lv_aload_n hx hb d_M_openItem_49 rfl (lv_at hl 0 rfl) ?_
            refine va_get (D := (dC, dI)) (ci := 3) (v := .ref a_item) (C := R_M) (T := F_M) (N := 16) hx hb hts (kx_in in_M) hown hK hP 0 rfl rfl 15 (by decide) (hts _ (kx_w iw_490)) (fun _ h9 => h9) rfl d_M_openItem_50 ?_
            refine lv_iconst (v := 4) hx hb d_M_openItem_53 (by decide) ?_
            refine lv_iload_n hx hb d_M_openItem_54 rfl (lv_at hl 1 rfl) ?_
            refine lv_imul hx hb d_M_openItem_55 ?_
            refine lv_iload_n hx hb d_M_openItem_56 rfl (lv_at hl 2 rfl) ?_
            refine lv_iadd hx hb d_M_openItem_57 ?_
            obtain ⟨hi, hw⟩ := hw
            refine va_lald hx hb hK hP 1 1 rfl rfl hi d_M_openItem_58 ?_
            exact W.lret (v := (v_item (Int32.toNatClampNeg ((4 * p0) + p1)))) hx hb hr (fun t ht hW => ⟨⟨(v_item (Int32.toNatClampNeg ((4 * p0) + p1))), 1, rfl, hw, ⟨by rw [ht]; exact hP, hD⟩⟩, hS.F ht⟩) hS.2.2 d_M_openItem_59
          ·
            have hw := hw.2 hc
            refine lv_lconst (v := 0) hx hb d_M_openItem_45 (by decide) ?_
            refine lv_goto (tgt := 59) hx hb d_M_openItem_46 rfl ?_
            exact W.lret (v := 0) hx hb hr (fun t ht hW => ⟨⟨0, 1, rfl, hw, ⟨by rw [ht]; exact hP, hD⟩⟩, hS.F ht⟩) hS.2.2 d_M_openItem_59
        ·
          have hw := hw.2 hc
          refine lv_iload_n hx hb d_M_openItem_24 rfl (lv_at hl 2 rfl) ?_
          refine lv_iconst (v := 4) hx hb d_M_openItem_25 (by decide) ?_
          refine lv_icmp_ge (tgt := 33) hx hb d_M_openItem_26 rfl (fun hc => ?_) (fun hc => ?_)
          ·
            have hw := hw.1 hc
            refine lv_iconst (v := 1) hx hb d_M_openItem_33 (by decide) ?_
            refine va_put (D := (dC, dI)) (ci := 3) (v := .int 1) (ty := .int) (C := R_M) (T := F_M) (N := 16) hx hb hts (kx_in in_M) t_M t_M_ok n_M hown hK hP hD hS 0 rfl rfl 0 (by decide) (hts _ (kx_w iw_475)) (fun _ h9 => h9) rfl (by decide +kernel) rfl rfl (Nat.le_of_ble_eq_true rfl) d_M_openItem_34 (fun H locs hP hD hS => ?_)
            have hP : va_P (dC, dI) classes (WS_M_openItem cI cL cZ h0 a_currency a_sort a_closing a_average a_held a_sum a_told a_left a_step a_outside a_item 1 v_companies v_accounts v_done v_items v_item) H := hP
            have hD : va_D A (WS_M_openItem cI cL cZ h0 a_currency a_sort a_closing a_average a_held a_sum a_told a_left a_step a_outside a_item 1 v_companies v_accounts v_done v_items v_item) := hD
            refine lv_aload_n hx hb d_M_openItem_37 rfl (lv_at hl 0 rfl) ?_
            refine va_get (D := (dC, dI)) (ci := 3) (v := .int 1) (C := R_M) (T := F_M) (N := 16) hx hb hts (kx_in in_M) hown hK hP 0 rfl rfl 0 (by decide) (hts _ (kx_w iw_475)) (fun _ h9 => h9) rfl d_M_openItem_38 ?_
            refine lv_iconst (v := 1) hx hb d_M_openItem_41 (by decide) ?_
            refine lv_icmp_ne (tgt := 49) hx hb d_M_openItem_42 rfl (fun hc => ?_) (fun hc => ?_)
            ·
              have hw := hw.1 hc
              refine lv_aload_n hx hb d_M_openItem_49 rfl (lv_at hl 0 rfl) ?_
              refine va_get (D := (dC, dI)) (ci := 3) (v := .ref a_item) (C := R_M) (T := F_M) (N := 16) hx hb hts (kx_in in_M) hown hK hP 0 rfl rfl 15 (by decide) (hts _ (kx_w iw_490)) (fun _ h9 => h9) rfl d_M_openItem_50 ?_
              refine lv_iconst (v := 4) hx hb d_M_openItem_53 (by decide) ?_
              refine lv_iload_n hx hb d_M_openItem_54 rfl (lv_at hl 1 rfl) ?_
              refine lv_imul hx hb d_M_openItem_55 ?_
              refine lv_iload_n hx hb d_M_openItem_56 rfl (lv_at hl 2 rfl) ?_
              refine lv_iadd hx hb d_M_openItem_57 ?_
              obtain ⟨hi, hw⟩ := hw
              refine va_lald hx hb hK hP 1 1 rfl rfl hi d_M_openItem_58 ?_
              exact W.lret (v := (v_item (Int32.toNatClampNeg ((4 * p0) + p1)))) hx hb hr (fun t ht hW => ⟨⟨(v_item (Int32.toNatClampNeg ((4 * p0) + p1))), 1, rfl, hw, ⟨by rw [ht]; exact hP, hD⟩⟩, hS.F ht⟩) hS.2.2 d_M_openItem_59
            ·
              have hw := hw.2 hc
              refine lv_lconst (v := 0) hx hb d_M_openItem_45 (by decide) ?_
              refine lv_goto (tgt := 59) hx hb d_M_openItem_46 rfl ?_
              exact W.lret (v := 0) hx hb hr (fun t ht hW => ⟨⟨0, 1, rfl, hw, ⟨by rw [ht]; exact hP, hD⟩⟩, hS.F ht⟩) hS.2.2 d_M_openItem_59
          ·
            have hw := hw.2 hc
            refine lv_iconst (v := 0) hx hb d_M_openItem_29 (by decide) ?_
            refine lv_goto (tgt := 34) hx hb d_M_openItem_30 rfl ?_
            refine va_put (D := (dC, dI)) (ci := 3) (v := .int 0) (ty := .int) (C := R_M) (T := F_M) (N := 16) hx hb hts (kx_in in_M) t_M t_M_ok n_M hown hK hP hD hS 0 rfl rfl 0 (by decide) (hts _ (kx_w iw_475)) (fun _ h9 => h9) rfl (by decide +kernel) rfl rfl (Nat.le_of_ble_eq_true rfl) d_M_openItem_34 (fun H locs hP hD hS => ?_)
            have hP : va_P (dC, dI) classes (WS_M_openItem cI cL cZ h0 a_currency a_sort a_closing a_average a_held a_sum a_told a_left a_step a_outside a_item 0 v_companies v_accounts v_done v_items v_item) H := hP
            have hD : va_D A (WS_M_openItem cI cL cZ h0 a_currency a_sort a_closing a_average a_held a_sum a_told a_left a_step a_outside a_item 0 v_companies v_accounts v_done v_items v_item) := hD
            refine lv_aload_n hx hb d_M_openItem_37 rfl (lv_at hl 0 rfl) ?_
            refine va_get (D := (dC, dI)) (ci := 3) (v := .int 0) (C := R_M) (T := F_M) (N := 16) hx hb hts (kx_in in_M) hown hK hP 0 rfl rfl 0 (by decide) (hts _ (kx_w iw_475)) (fun _ h9 => h9) rfl d_M_openItem_38 ?_
            refine lv_iconst (v := 1) hx hb d_M_openItem_41 (by decide) ?_
            refine lv_icmp_ne (tgt := 49) hx hb d_M_openItem_42 rfl (fun hc => ?_) (fun hc => ?_)
            ·
              have hw := hw.1 hc
              refine lv_aload_n hx hb d_M_openItem_49 rfl (lv_at hl 0 rfl) ?_
              refine va_get (D := (dC, dI)) (ci := 3) (v := .ref a_item) (C := R_M) (T := F_M) (N := 16) hx hb hts (kx_in in_M) hown hK hP 0 rfl rfl 15 (by decide) (hts _ (kx_w iw_490)) (fun _ h9 => h9) rfl d_M_openItem_50 ?_
              refine lv_iconst (v := 4) hx hb d_M_openItem_53 (by decide) ?_
              refine lv_iload_n hx hb d_M_openItem_54 rfl (lv_at hl 1 rfl) ?_
              refine lv_imul hx hb d_M_openItem_55 ?_
              refine lv_iload_n hx hb d_M_openItem_56 rfl (lv_at hl 2 rfl) ?_
              refine lv_iadd hx hb d_M_openItem_57 ?_
              obtain ⟨hi, hw⟩ := hw
              refine va_lald hx hb hK hP 1 1 rfl rfl hi d_M_openItem_58 ?_
              exact W.lret (v := (v_item (Int32.toNatClampNeg ((4 * p0) + p1)))) hx hb hr (fun t ht hW => ⟨⟨(v_item (Int32.toNatClampNeg ((4 * p0) + p1))), 0, rfl, hw, ⟨by rw [ht]; exact hP, hD⟩⟩, hS.F ht⟩) hS.2.2 d_M_openItem_59
            ·
              have hw := hw.2 hc
              refine lv_lconst (v := 0) hx hb d_M_openItem_45 (by decide) ?_
              refine lv_goto (tgt := 59) hx hb d_M_openItem_46 rfl ?_
              exact W.lret (v := 0) hx hb hr (fun t ht hW => ⟨⟨0, 0, rfl, hw, ⟨by rw [ht]; exact hP, hD⟩⟩, hS.F ht⟩) hS.2.2 d_M_openItem_59
