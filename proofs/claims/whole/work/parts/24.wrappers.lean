theorem iw_346 : (Jvm.Cond.classLink "ConsolidationDeskLaw" (13 : Nat) "java/util/NoSuchElementException") ∈ kxW := List.mem_filter.mpr ⟨List.mem_append_right _ (List.mem_of_getElem? (i := 346) (by decide +kernel)), by decide +kernel⟩
theorem iw_347 : (Jvm.Cond.methodLink "ConsolidationDeskLaw" (7 : Nat) ({ cls := "ConsolidationDesk", name := "posted", desc := "(III)J" } : Jvm.MethodName)) ∈ kxW := List.mem_filter.mpr ⟨List.mem_append_right _ (List.mem_of_getElem? (i := 347) (by decide +kernel)), by decide +kernel⟩
theorem iw_348 : (Jvm.Cond.instanceMethod ({ cls := "ConsolidationDesk", name := "posted", desc := "(III)J" } : Jvm.MethodName)) ∈ kxW := List.mem_filter.mpr ⟨List.mem_append_right _ (List.mem_of_getElem? (i := 348) (by decide +kernel)), by decide +kernel⟩
theorem iw_349 : (Jvm.Cond.selects "ConsolidationDesk" ({ cls := "ConsolidationDesk", name := "posted", desc := "(III)J" } : Jvm.MethodName) ({ cls := "ConsolidationDesk", name := "posted", desc := "(III)J" } : Jvm.MethodName)) ∈ kxW := List.mem_filter.mpr ⟨List.mem_append_right _ (List.mem_of_getElem? (i := 349) (by decide +kernel)), by decide +kernel⟩
theorem iw_350 : (Jvm.Cond.code ({ cls := "ConsolidationDesk", name := "posted", desc := "(III)J" } : Jvm.MethodName) prog_1_method_8_code (4 : Nat) (Option.some Jvm.ClassFile.FieldType.long)) ∈ kxW := List.mem_filter.mpr ⟨List.mem_append_right _ (List.mem_of_getElem? (i := 350) (by decide +kernel)), by decide +kernel⟩
theorem iw_415 : (Jvm.Cond.methodLink "ConsolidationDeskLaw" (15 : Nat) ({ cls := "ConsolidationDesk", name := "group", desc := "(I)J" } : Jvm.MethodName)) ∈ kxW := List.mem_filter.mpr ⟨List.mem_append_right _ (List.mem_of_getElem? (i := 415) (by decide +kernel)), by decide +kernel⟩
theorem iw_416 : (Jvm.Cond.instanceMethod ({ cls := "ConsolidationDesk", name := "group", desc := "(I)J" } : Jvm.MethodName)) ∈ kxW := List.mem_filter.mpr ⟨List.mem_append_right _ (List.mem_of_getElem? (i := 416) (by decide +kernel)), by decide +kernel⟩
theorem iw_417 : (Jvm.Cond.selects "ConsolidationDesk" ({ cls := "ConsolidationDesk", name := "group", desc := "(I)J" } : Jvm.MethodName) ({ cls := "ConsolidationDesk", name := "group", desc := "(I)J" } : Jvm.MethodName)) ∈ kxW := List.mem_filter.mpr ⟨List.mem_append_right _ (List.mem_of_getElem? (i := 417) (by decide +kernel)), by decide +kernel⟩
theorem iw_418 : (Jvm.Cond.code ({ cls := "ConsolidationDesk", name := "group", desc := "(I)J" } : Jvm.MethodName) prog_1_method_13_code (2 : Nat) (Option.some Jvm.ClassFile.FieldType.long)) ∈ kxW := List.mem_filter.mpr ⟨List.mem_append_right _ (List.mem_of_getElem? (i := 418) (by decide +kernel)), by decide +kernel⟩
theorem iw_430 : (Jvm.Cond.methodLink "ConsolidationDeskLaw" (19 : Nat) ({ cls := "ConsolidationDesk", name := "trace", desc := "(III)J" } : Jvm.MethodName)) ∈ kxW := List.mem_filter.mpr ⟨List.mem_append_right _ (List.mem_of_getElem? (i := 430) (by decide +kernel)), by decide +kernel⟩
theorem iw_431 : (Jvm.Cond.instanceMethod ({ cls := "ConsolidationDesk", name := "trace", desc := "(III)J" } : Jvm.MethodName)) ∈ kxW := List.mem_filter.mpr ⟨List.mem_append_right _ (List.mem_of_getElem? (i := 431) (by decide +kernel)), by decide +kernel⟩
theorem iw_432 : (Jvm.Cond.selects "ConsolidationDesk" ({ cls := "ConsolidationDesk", name := "trace", desc := "(III)J" } : Jvm.MethodName) ({ cls := "ConsolidationDesk", name := "trace", desc := "(III)J" } : Jvm.MethodName)) ∈ kxW := List.mem_filter.mpr ⟨List.mem_append_right _ (List.mem_of_getElem? (i := 432) (by decide +kernel)), by decide +kernel⟩
theorem iw_433 : (Jvm.Cond.code ({ cls := "ConsolidationDesk", name := "trace", desc := "(III)J" } : Jvm.MethodName) prog_1_method_14_code (4 : Nat) (Option.some Jvm.ClassFile.FieldType.long)) ∈ kxW := List.mem_filter.mpr ⟨List.mem_append_right _ (List.mem_of_getElem? (i := 433) (by decide +kernel)), by decide +kernel⟩
theorem iw_437 : (Jvm.Cond.methodLink "ConsolidationDeskLaw" (22 : Nat) ({ cls := "ConsolidationDesk", name := "minority", desc := "(I)J" } : Jvm.MethodName)) ∈ kxW := List.mem_filter.mpr ⟨List.mem_append_right _ (List.mem_of_getElem? (i := 437) (by decide +kernel)), by decide +kernel⟩
theorem iw_438 : (Jvm.Cond.instanceMethod ({ cls := "ConsolidationDesk", name := "minority", desc := "(I)J" } : Jvm.MethodName)) ∈ kxW := List.mem_filter.mpr ⟨List.mem_append_right _ (List.mem_of_getElem? (i := 438) (by decide +kernel)), by decide +kernel⟩
theorem iw_439 : (Jvm.Cond.selects "ConsolidationDesk" ({ cls := "ConsolidationDesk", name := "minority", desc := "(I)J" } : Jvm.MethodName) ({ cls := "ConsolidationDesk", name := "minority", desc := "(I)J" } : Jvm.MethodName)) ∈ kxW := List.mem_filter.mpr ⟨List.mem_append_right _ (List.mem_of_getElem? (i := 439) (by decide +kernel)), by decide +kernel⟩
theorem iw_440 : (Jvm.Cond.code ({ cls := "ConsolidationDesk", name := "minority", desc := "(I)J" } : Jvm.MethodName) prog_1_method_15_code (2 : Nat) (Option.some Jvm.ClassFile.FieldType.long)) ∈ kxW := List.mem_filter.mpr ⟨List.mem_append_right _ (List.mem_of_getElem? (i := 440) (by decide +kernel)), by decide +kernel⟩
theorem iw_448 : (Jvm.Cond.methodLink "ConsolidationDeskLaw" (25 : Nat) ({ cls := "ConsolidationDesk", name := "openItem", desc := "(II)J" } : Jvm.MethodName)) ∈ kxW := List.mem_filter.mpr ⟨List.mem_append_right _ (List.mem_of_getElem? (i := 448) (by decide +kernel)), by decide +kernel⟩
theorem iw_449 : (Jvm.Cond.instanceMethod ({ cls := "ConsolidationDesk", name := "openItem", desc := "(II)J" } : Jvm.MethodName)) ∈ kxW := List.mem_filter.mpr ⟨List.mem_append_right _ (List.mem_of_getElem? (i := 449) (by decide +kernel)), by decide +kernel⟩
theorem iw_450 : (Jvm.Cond.selects "ConsolidationDesk" ({ cls := "ConsolidationDesk", name := "openItem", desc := "(II)J" } : Jvm.MethodName) ({ cls := "ConsolidationDesk", name := "openItem", desc := "(II)J" } : Jvm.MethodName)) ∈ kxW := List.mem_filter.mpr ⟨List.mem_append_right _ (List.mem_of_getElem? (i := 450) (by decide +kernel)), by decide +kernel⟩
theorem iw_451 : (Jvm.Cond.code ({ cls := "ConsolidationDesk", name := "openItem", desc := "(II)J" } : Jvm.MethodName) prog_1_method_17_code (3 : Nat) (Option.some Jvm.ClassFile.FieldType.long)) ∈ kxW := List.mem_filter.mpr ⟨List.mem_append_right _ (List.mem_of_getElem? (i := 451) (by decide +kernel)), by decide +kernel⟩
abbrev y_L_posted : MethodName := ⟨"ConsolidationDeskLaw", "posted", "(LConsolidationDesk;III[J)I"⟩
theorem d_L_posted_0 : decode method_3_code 0 = .ok (.aload 4, 2) := by decide +kernel
theorem d_L_posted_2 : decode method_3_code 2 = .ok (.iconst 0, 1) := by decide +kernel
theorem d_L_posted_3 : decode method_3_code 3 = .ok (.aload_n 0, 1) := by decide +kernel
theorem d_L_posted_4 : decode method_3_code 4 = .ok (.iload_n 1, 1) := by decide +kernel
theorem d_L_posted_5 : decode method_3_code 5 = .ok (.iload_n 2, 1) := by decide +kernel
theorem d_L_posted_6 : decode method_3_code 6 = .ok (.iload_n 3, 1) := by decide +kernel
theorem d_L_posted_7 : decode method_3_code 7 = .ok (.invokevirtual 7, 3) := by decide +kernel
theorem d_L_posted_10 : decode method_3_code 10 = .ok (.lastore, 1) := by decide +kernel
theorem d_L_posted_11 : decode method_3_code 11 = .ok (.goto 7, 3) := by decide +kernel
theorem d_L_posted_14 : decode method_3_code 14 = .ok (.astore 5, 2) := by decide +kernel
theorem d_L_posted_16 : decode method_3_code 16 = .ok (.iconst 1, 1) := by decide +kernel
theorem d_L_posted_17 : decode method_3_code 17 = .ok (.ireturn, 1) := by decide +kernel
theorem d_L_posted_18 : decode method_3_code 18 = .ok (.iconst 0, 1) := by decide +kernel
theorem d_L_posted_19 : decode method_3_code 19 = .ok (.ireturn, 1) := by decide +kernel
abbrev WS_L_posted (cI cL cZ : ClassId) (h0 a_currencyOf a_sortOf a_closingRates a_averageRates a_sums a_historicAmounts a_holdings a_report a_out : Nat) (v_companies : Int32) (v_accounts : Int32) (v_reserve : Int32) (v_sums : (Nat → Int64)) (v_out : Nat → Int64) : va_W := [(h0, .inr (2, [.int v_companies, .ref a_currencyOf, .int v_accounts, .ref a_sortOf, .int v_reserve, .ref a_closingRates, .ref a_averageRates, .ref a_sums, .ref a_historicAmounts, .ref a_holdings, .ref a_report])), (a_sums, .inl (cL, 1872, .inr (.inl v_sums))), (a_out, .inl (cL, 1, .inr (.inl v_out)))]
def wp_L_posted (p0 p1 p2 : Int32) (v_companies : Int32) (v_accounts : Int32) (v_sums : (Nat → Int64)) (v_out : Nat → Int64) (post : Int32 → (Nat → Int64) → Prop) : Prop := wp_D_posted p0 p1 p2 v_companies v_accounts v_sums (fun r _ => post 0 (vp_updL v_out 0 r)) (post 1 v_out)
abbrev ws_L_posted : List Cond := .codeWith y_L_posted method_3_code 6 (some .int) [(0, 11, 14, 13)] :: kxW
abbrev rm_L_posted : Room := { frames := 7, cells := 1, slots := 6, locals := 113 }
set_option maxHeartbeats 4000000 in
set_option maxRecDepth 100000 in
theorem c_L_posted (l : Launch) (hfl : l.flags = flags0) (dC : Nat → ClassId) (dI : Nat → Nat → Nat) (cI cL cZ : ClassId) (h0 a_currencyOf a_sortOf a_closingRates a_averageRates a_sums a_historicAmounts a_holdings a_report a_out : Nat) (v_companies : Int32) (v_accounts : Int32) (v_reserve : Int32) (v_sums : (Nat → Int64)) (v_out : Nat → Int64) (sz : Nat) (p0 p1 p2 : Int32) {post : Int32 → (Nat → Int64) → Prop} (hw : wp_L_posted p0 p1 p2 v_companies v_accounts v_sums v_out post) : Met l y_L_posted ws_L_posted rm_L_posted (fun v U => kx_Pc (dC, dI) classes (kx_T cI cL cZ) (WS_L_posted cI cL cZ h0 a_currencyOf a_sortOf a_closingRates a_averageRates a_sums a_historicAmounts a_holdings a_report a_out v_companies v_accounts v_reserve v_sums v_out) sz [.ref h0, .int p0, .int p1, .int p2, .ref a_out] v U ∧ kt_N U) (va_Qi post (fun u t => kx_B (dC, dI) classes (va_A (WS_L_posted cI cL cZ h0 a_currencyOf a_sortOf a_closingRates a_averageRates a_sums a_historicAmounts a_holdings a_report a_out v_companies v_accounts v_reserve v_sums v_out) sz) (WS_L_posted cI cL cZ h0 a_currencyOf a_sortOf a_closingRates a_averageRates a_sums a_historicAmounts a_holdings a_report a_out v_companies v_accounts v_reserve v_sums u) t) (va_A (WS_L_posted cI cL cZ h0 a_currencyOf a_sortOf a_closingRates a_averageRates a_sums a_historicAmounts a_holdings a_report a_out v_companies v_accounts v_reserve v_sums v_out) sz)) 1 6 (va_A (WS_L_posted cI cL cZ h0 a_currencyOf a_sortOf a_closingRates a_averageRates a_sums a_historicAmounts a_holdings a_report a_out v_companies v_accounts v_reserve v_sums v_out) sz) := by
  refine va_MetW (cc := method_3_code) (maxL := 6) (ret := (some .int)) (hh := [(0, 11, 14, 13)]) (by decide) rfl ?_
  intro p e s m args below meth c s₁ B hml hv
  obtain ⟨⟨rfl, hsz, hP, hK, hD0, hN⟩, hT⟩ := hv
  have hx := B.exec
  have hb := B.bytes
  have hr := B.returns
  have hts := atoms_spec (ws := ws_L_posted) B.pre
  have hown : s.vm.findClass R_L = some m.cls := findClass_of_methodNamed B.named
  have hlocks := B.notSynchronized
  obtain ⟨m9, meth9, c9, hn9, hm9, hc9, -, -, htab, -⟩ := Cond.codeWith_spec (hts _ List.mem_cons_self)
  cases B.named.symm.trans hn9
  cases B.method.symm.trans hm9
  cases (Stand.of_body B).code.symm.trans hc9
  have htab := kt_tab htab
  subst hsz
  have hD := hD0.self (sz := s.heap.size)
  generalize hAe : va_A (WS_L_posted cI cL cZ h0 a_currencyOf a_sortOf a_closingRates a_averageRates a_sums a_historicAmounts a_holdings a_report a_out v_companies v_accounts v_reserve v_sums v_out) s.heap.size = A at hD ⊢
  have hA : ∀ q : Nat, s.heap.size ≤ q → A q := fun q h => by rw [← hAe]; exact Or.inr h
  have hS : va_S A s.heap s.heap [] := va_S.rf
  have hP : va_P (dC, dI) classes (WS_L_posted cI cL cZ h0 a_currencyOf a_sortOf a_closingRates a_averageRates a_sums a_historicAmounts a_holdings a_report a_out v_companies v_accounts v_reserve v_sums v_out) s.heap := hP
  have hl := lv_entry ([.ref h0, .int p0, .int p1, .int p2, .ref a_out]) (n := 6) (Nat.le_of_ble_eq_true rfl)
  rw [lg_entry_eq]
  generalize (lg_sl ([.ref h0, .int p0, .int p1, .int p2, .ref a_out]) ++ List.replicate (6 - (lg_sl ([.ref h0, .int p0, .int p1, .int p2, .ref a_out])).length) Slot.unset).toArray = ls at hl ⊢
  have hl : lv_has ls 6 [(0, .ref h0), (1, .int p0), (2, .int p1), (3, .int p2), (4, .ref a_out)] := hl
  unfold wp_L_posted at hw
  refine lv_aload hx hb d_L_posted_0 (lv_at hl 4 rfl) ?_
  refine lv_iconst (v := 0) hx hb d_L_posted_2 (by decide) ?_
  refine lv_aload_n hx hb d_L_posted_3 rfl (lv_at hl 0 rfl) ?_
  refine lv_iload_n hx hb d_L_posted_4 rfl (lv_at hl 1 rfl) ?_
  refine lv_iload_n hx hb d_L_posted_5 rfl (lv_at hl 2 rfl) ?_
  refine lv_iload_n hx hb d_L_posted_6 rfl (lv_at hl 3 rfl) ?_
  refine kt_call (As := [.int p0, .int p1, .int p2]) (rest := [.int 0, .ref a_out]) (x := ⟨0, 11, 14, 13⟩) hx hb (by rw [hml]; exact hl.1) hown (t_D_posted l hfl dC dI cI cL cZ h0 a_currencyOf a_sortOf a_closingRates a_averageRates a_sums a_historicAmounts a_holdings a_report v_companies v_accounts v_reserve v_sums s.heap.size p0 p1 p2 hw) (fun a U g mk q => ⟨kx_blind a U g mk q.1, q.2.called⟩) rfl rfl (Nat.le_of_ble_eq_true rfl) (Nat.le_of_ble_eq_true rfl) (pay_in hts (kx_good iw_350)) List.mem_cons_self (hts _ (kx_w iw_347)) (hts _ (kx_w iw_348)) (hts _ (kx_w iw_349)) (hts _ (kx_w iw_1)) (by decide) (show (parseMethodDescriptor y_D_posted.desc).map (fun d => d.parameters.length) = some 3 by decide +kernel) (va_recv (q0 := 0) (q := (R_D, F_D, 11)) hK hP rfl rfl) (fun U hU hW => ⟨(kx_preS hN hK hP hD [0, 1] (by decide) rfl).2 U hU hW, hT.moved hW (fun q _ => by rw [hU])⟩) (Nat.le_of_ble_eq_true rfl) d_L_posted_7 (Nat.le_of_ble_eq_true rfl) (Nat.le_of_ble_eq_true rfl) htab (by decide) (by decide) (hts _ (kx_w iw_346)) (fun r hw => ?_) (fun hw xa H hz hq => ?_)
  ·
    refine va_last hx hb hK hP hD hS 2 1 rfl rfl (show vp_in 0 1 by unfold vp_in; decide) d_L_posted_10 (fun H locs hP hD hS => ?_)
    have hP : va_P (dC, dI) classes (WS_L_posted cI cL cZ h0 a_currencyOf a_sortOf a_closingRates a_averageRates a_sums a_historicAmounts a_holdings a_report a_out v_companies v_accounts v_reserve v_sums (vp_updL v_out 0 r)) H := hP
    have hD : va_D A (WS_L_posted cI cL cZ h0 a_currencyOf a_sortOf a_closingRates a_averageRates a_sums a_historicAmounts a_holdings a_report a_out v_companies v_accounts v_reserve v_sums (vp_updL v_out 0 r)) := hD
    refine lv_goto (tgt := 18) hx hb d_L_posted_11 rfl ?_
    refine lv_iconst (v := 0) hx hb d_L_posted_18 (by decide) ?_
    exact W.iret (v := 0) hx hb hr (fun t ht hW => ⟨⟨0, vp_updL v_out 0 r, rfl, hw, ⟨by rw [ht]; exact hP, hD⟩⟩, hS.F ht⟩) hS.2.2 d_L_posted_19
  ·
    have hP : va_P (dC, dI) classes (WS_L_posted cI cL cZ h0 a_currencyOf a_sortOf a_closingRates a_averageRates a_sums a_historicAmounts a_holdings a_report a_out v_companies v_accounts v_reserve v_sums v_out) H := hP.kept (fun k q h9 => hq q.1 ((hP k q h9).lt))
    have hS : va_S A s.heap H [] := ⟨hz, fun q h1 _ => hq q h1, fun _ h => by cases h⟩
    refine lv_astore (lv' := [(5, .ref xa), (0, .ref h0), (1, .int p0), (2, .int p1), (3, .int p2), (4, .ref a_out)]) hx hb d_L_posted_14 hl (by decide) rfl (fun ls hl => ?_)
    refine lv_iconst (v := 1) hx hb d_L_posted_16 (by decide) ?_
    exact W.iret (v := 1) hx hb hr (fun t ht hW => ⟨⟨1, v_out, rfl, hw, ⟨by rw [ht]; exact hP, hD⟩⟩, hS.F ht⟩) hS.2.2 d_L_posted_17
abbrev y_L_group : MethodName := ⟨"ConsolidationDeskLaw", "group", "(LConsolidationDesk;I[J)I"⟩
theorem d_L_group_0 : decode method_4_code 0 = .ok (.aload_n 2, 1) := by decide +kernel
theorem d_L_group_1 : decode method_4_code 1 = .ok (.iconst 0, 1) := by decide +kernel
theorem d_L_group_2 : decode method_4_code 2 = .ok (.aload_n 0, 1) := by decide +kernel
theorem d_L_group_3 : decode method_4_code 3 = .ok (.iload_n 1, 1) := by decide +kernel
theorem d_L_group_4 : decode method_4_code 4 = .ok (.invokevirtual 15, 3) := by decide +kernel
theorem d_L_group_7 : decode method_4_code 7 = .ok (.lastore, 1) := by decide +kernel
theorem d_L_group_8 : decode method_4_code 8 = .ok (.goto 6, 3) := by decide +kernel
theorem d_L_group_11 : decode method_4_code 11 = .ok (.astore_n 3, 1) := by decide +kernel
theorem d_L_group_12 : decode method_4_code 12 = .ok (.iconst 1, 1) := by decide +kernel
theorem d_L_group_13 : decode method_4_code 13 = .ok (.ireturn, 1) := by decide +kernel
theorem d_L_group_14 : decode method_4_code 14 = .ok (.iconst 0, 1) := by decide +kernel
theorem d_L_group_15 : decode method_4_code 15 = .ok (.ireturn, 1) := by decide +kernel
abbrev WS_L_group (cI cL cZ : ClassId) (h0 a_currencyOf a_sortOf a_closingRates a_averageRates a_sums a_historicAmounts a_holdings a_report a_report_amounts a_report_stepAmounts a_report_groupAmounts a_report_outsidersCredits a_report_openPlaces a_out : Nat) (v_companies : Int32) (v_accounts : Int32) (v_reserve : Int32) (v_report_made : Int32) (v_report_companies : Int32) (v_report_accounts : Int32) (v_report_open : Int32) (v_report_groupAmounts : (Nat → Int64)) (v_out : Nat → Int64) : va_W := [(h0, .inr (2, [.int v_companies, .ref a_currencyOf, .int v_accounts, .ref a_sortOf, .int v_reserve, .ref a_closingRates, .ref a_averageRates, .ref a_sums, .ref a_historicAmounts, .ref a_holdings, .ref a_report])), (a_report, .inr (1, [.int v_report_made, .int v_report_companies, .int v_report_accounts, .ref a_report_amounts, .ref a_report_stepAmounts, .ref a_report_groupAmounts, .ref a_report_outsidersCredits, .ref a_report_openPlaces, .int v_report_open])), (a_report_groupAmounts, .inl (cL, 12, .inr (.inl v_report_groupAmounts))), (a_out, .inl (cL, 1, .inr (.inl v_out)))]
def wp_L_group (p0 : Int32) (v_accounts : Int32) (v_report_made : Int32) (v_report_groupAmounts : (Nat → Int64)) (v_out : Nat → Int64) (post : Int32 → (Nat → Int64) → Prop) : Prop := wp_D_group p0 v_accounts v_report_made v_report_groupAmounts (fun r _ => post 0 (vp_updL v_out 0 r)) (post 1 v_out)
abbrev ws_L_group : List Cond := .codeWith y_L_group method_4_code 4 (some .int) [(0, 8, 11, 13)] :: kxW
abbrev rm_L_group : Room := { frames := 7, cells := 1, slots := 6, locals := 111 }
set_option maxHeartbeats 4000000 in
set_option maxRecDepth 100000 in
theorem c_L_group (l : Launch) (hfl : l.flags = flags0) (dC : Nat → ClassId) (dI : Nat → Nat → Nat) (cI cL cZ : ClassId) (h0 a_currencyOf a_sortOf a_closingRates a_averageRates a_sums a_historicAmounts a_holdings a_report a_report_amounts a_report_stepAmounts a_report_groupAmounts a_report_outsidersCredits a_report_openPlaces a_out : Nat) (v_companies : Int32) (v_accounts : Int32) (v_reserve : Int32) (v_report_made : Int32) (v_report_companies : Int32) (v_report_accounts : Int32) (v_report_open : Int32) (v_report_groupAmounts : (Nat → Int64)) (v_out : Nat → Int64) (sz : Nat) (p0 : Int32) {post : Int32 → (Nat → Int64) → Prop} (hw : wp_L_group p0 v_accounts v_report_made v_report_groupAmounts v_out post) : Met l y_L_group ws_L_group rm_L_group (fun v U => kx_Pc (dC, dI) classes (kx_T cI cL cZ) (WS_L_group cI cL cZ h0 a_currencyOf a_sortOf a_closingRates a_averageRates a_sums a_historicAmounts a_holdings a_report a_report_amounts a_report_stepAmounts a_report_groupAmounts a_report_outsidersCredits a_report_openPlaces a_out v_companies v_accounts v_reserve v_report_made v_report_companies v_report_accounts v_report_open v_report_groupAmounts v_out) sz [.ref h0, .int p0, .ref a_out] v U ∧ kt_N U) (va_Qi post (fun u t => kx_B (dC, dI) classes (va_A (WS_L_group cI cL cZ h0 a_currencyOf a_sortOf a_closingRates a_averageRates a_sums a_historicAmounts a_holdings a_report a_report_amounts a_report_stepAmounts a_report_groupAmounts a_report_outsidersCredits a_report_openPlaces a_out v_companies v_accounts v_reserve v_report_made v_report_companies v_report_accounts v_report_open v_report_groupAmounts v_out) sz) (WS_L_group cI cL cZ h0 a_currencyOf a_sortOf a_closingRates a_averageRates a_sums a_historicAmounts a_holdings a_report a_report_amounts a_report_stepAmounts a_report_groupAmounts a_report_outsidersCredits a_report_openPlaces a_out v_companies v_accounts v_reserve v_report_made v_report_companies v_report_accounts v_report_open v_report_groupAmounts u) t) (va_A (WS_L_group cI cL cZ h0 a_currencyOf a_sortOf a_closingRates a_averageRates a_sums a_historicAmounts a_holdings a_report a_report_amounts a_report_stepAmounts a_report_groupAmounts a_report_outsidersCredits a_report_openPlaces a_out v_companies v_accounts v_reserve v_report_made v_report_companies v_report_accounts v_report_open v_report_groupAmounts v_out) sz)) 1 6 (va_A (WS_L_group cI cL cZ h0 a_currencyOf a_sortOf a_closingRates a_averageRates a_sums a_historicAmounts a_holdings a_report a_report_amounts a_report_stepAmounts a_report_groupAmounts a_report_outsidersCredits a_report_openPlaces a_out v_companies v_accounts v_reserve v_report_made v_report_companies v_report_accounts v_report_open v_report_groupAmounts v_out) sz) := by
  refine va_MetW (cc := method_4_code) (maxL := 4) (ret := (some .int)) (hh := [(0, 8, 11, 13)]) (by decide) rfl ?_
  intro p e s m args below meth c s₁ B hml hv
  obtain ⟨⟨rfl, hsz, hP, hK, hD0, hN⟩, hT⟩ := hv
  have hx := B.exec
  have hb := B.bytes
  have hr := B.returns
  have hts := atoms_spec (ws := ws_L_group) B.pre
  have hown : s.vm.findClass R_L = some m.cls := findClass_of_methodNamed B.named
  have hlocks := B.notSynchronized
  obtain ⟨m9, meth9, c9, hn9, hm9, hc9, -, -, htab, -⟩ := Cond.codeWith_spec (hts _ List.mem_cons_self)
  cases B.named.symm.trans hn9
  cases B.method.symm.trans hm9
  cases (Stand.of_body B).code.symm.trans hc9
  have htab := kt_tab htab
  subst hsz
  have hD := hD0.self (sz := s.heap.size)
  generalize hAe : va_A (WS_L_group cI cL cZ h0 a_currencyOf a_sortOf a_closingRates a_averageRates a_sums a_historicAmounts a_holdings a_report a_report_amounts a_report_stepAmounts a_report_groupAmounts a_report_outsidersCredits a_report_openPlaces a_out v_companies v_accounts v_reserve v_report_made v_report_companies v_report_accounts v_report_open v_report_groupAmounts v_out) s.heap.size = A at hD ⊢
  have hA : ∀ q : Nat, s.heap.size ≤ q → A q := fun q h => by rw [← hAe]; exact Or.inr h
  have hS : va_S A s.heap s.heap [] := va_S.rf
  have hP : va_P (dC, dI) classes (WS_L_group cI cL cZ h0 a_currencyOf a_sortOf a_closingRates a_averageRates a_sums a_historicAmounts a_holdings a_report a_report_amounts a_report_stepAmounts a_report_groupAmounts a_report_outsidersCredits a_report_openPlaces a_out v_companies v_accounts v_reserve v_report_made v_report_companies v_report_accounts v_report_open v_report_groupAmounts v_out) s.heap := hP
  have hl := lv_entry ([.ref h0, .int p0, .ref a_out]) (n := 4) (Nat.le_of_ble_eq_true rfl)
  rw [lg_entry_eq]
  generalize (lg_sl ([.ref h0, .int p0, .ref a_out]) ++ List.replicate (4 - (lg_sl ([.ref h0, .int p0, .ref a_out])).length) Slot.unset).toArray = ls at hl ⊢
  have hl : lv_has ls 4 [(0, .ref h0), (1, .int p0), (2, .ref a_out)] := hl
  unfold wp_L_group at hw
  refine lv_aload_n hx hb d_L_group_0 rfl (lv_at hl 2 rfl) ?_
  refine lv_iconst (v := 0) hx hb d_L_group_1 (by decide) ?_
  refine lv_aload_n hx hb d_L_group_2 rfl (lv_at hl 0 rfl) ?_
  refine lv_iload_n hx hb d_L_group_3 rfl (lv_at hl 1 rfl) ?_
  refine kt_call (As := [.int p0]) (rest := [.int 0, .ref a_out]) (x := ⟨0, 8, 11, 13⟩) hx hb (by rw [hml]; exact hl.1) hown (t_D_group l hfl dC dI cI cL cZ h0 a_currencyOf a_sortOf a_closingRates a_averageRates a_sums a_historicAmounts a_holdings a_report a_report_amounts a_report_stepAmounts a_report_groupAmounts a_report_outsidersCredits a_report_openPlaces v_companies v_accounts v_reserve v_report_made v_report_companies v_report_accounts v_report_open v_report_groupAmounts s.heap.size p0 hw) (fun a U g mk q => ⟨kx_blind a U g mk q.1, q.2.called⟩) rfl rfl (Nat.le_of_ble_eq_true rfl) (Nat.le_of_ble_eq_true rfl) (pay_in hts (kx_good iw_418)) List.mem_cons_self (hts _ (kx_w iw_415)) (hts _ (kx_w iw_416)) (hts _ (kx_w iw_417)) (hts _ (kx_w iw_1)) (by decide) (show (parseMethodDescriptor y_D_group.desc).map (fun d => d.parameters.length) = some 1 by decide +kernel) (va_recv (q0 := 0) (q := (R_D, F_D, 11)) hK hP rfl rfl) (fun U hU hW => ⟨(kx_preS hN hK hP hD [0, 1, 2] (by decide) rfl).2 U hU hW, hT.moved hW (fun q _ => by rw [hU])⟩) (Nat.le_of_ble_eq_true rfl) d_L_group_4 (Nat.le_of_ble_eq_true rfl) (Nat.le_of_ble_eq_true rfl) htab (by decide) (by decide) (hts _ (kx_w iw_346)) (fun r hw => ?_) (fun hw xa H hz hq => ?_)
  ·
    refine va_last hx hb hK hP hD hS 3 1 rfl rfl (show vp_in 0 1 by unfold vp_in; decide) d_L_group_7 (fun H locs hP hD hS => ?_)
    have hP : va_P (dC, dI) classes (WS_L_group cI cL cZ h0 a_currencyOf a_sortOf a_closingRates a_averageRates a_sums a_historicAmounts a_holdings a_report a_report_amounts a_report_stepAmounts a_report_groupAmounts a_report_outsidersCredits a_report_openPlaces a_out v_companies v_accounts v_reserve v_report_made v_report_companies v_report_accounts v_report_open v_report_groupAmounts (vp_updL v_out 0 r)) H := hP
    have hD : va_D A (WS_L_group cI cL cZ h0 a_currencyOf a_sortOf a_closingRates a_averageRates a_sums a_historicAmounts a_holdings a_report a_report_amounts a_report_stepAmounts a_report_groupAmounts a_report_outsidersCredits a_report_openPlaces a_out v_companies v_accounts v_reserve v_report_made v_report_companies v_report_accounts v_report_open v_report_groupAmounts (vp_updL v_out 0 r)) := hD
    refine lv_goto (tgt := 14) hx hb d_L_group_8 rfl ?_
    refine lv_iconst (v := 0) hx hb d_L_group_14 (by decide) ?_
    exact W.iret (v := 0) hx hb hr (fun t ht hW => ⟨⟨0, vp_updL v_out 0 r, rfl, hw, ⟨by rw [ht]; exact hP, hD⟩⟩, hS.F ht⟩) hS.2.2 d_L_group_15
  ·
    have hP : va_P (dC, dI) classes (WS_L_group cI cL cZ h0 a_currencyOf a_sortOf a_closingRates a_averageRates a_sums a_historicAmounts a_holdings a_report a_report_amounts a_report_stepAmounts a_report_groupAmounts a_report_outsidersCredits a_report_openPlaces a_out v_companies v_accounts v_reserve v_report_made v_report_companies v_report_accounts v_report_open v_report_groupAmounts v_out) H := hP.kept (fun k q h9 => hq q.1 ((hP k q h9).lt))
    have hS : va_S A s.heap H [] := ⟨hz, fun q h1 _ => hq q h1, fun _ h => by cases h⟩
    refine lv_astore_n (lv' := [(3, .ref xa), (0, .ref h0), (1, .int p0), (2, .ref a_out)]) hx hb d_L_group_11 rfl hl (by decide) rfl (fun ls hl => ?_)
    refine lv_iconst (v := 1) hx hb d_L_group_12 (by decide) ?_
    exact W.iret (v := 1) hx hb hr (fun t ht hW => ⟨⟨1, v_out, rfl, hw, ⟨by rw [ht]; exact hP, hD⟩⟩, hS.F ht⟩) hS.2.2 d_L_group_13
abbrev y_L_trace : MethodName := ⟨"ConsolidationDeskLaw", "trace", "(LConsolidationDesk;III[J)I"⟩
theorem d_L_trace_0 : decode method_5_code 0 = .ok (.aload 4, 2) := by decide +kernel
theorem d_L_trace_2 : decode method_5_code 2 = .ok (.iconst 0, 1) := by decide +kernel
theorem d_L_trace_3 : decode method_5_code 3 = .ok (.aload_n 0, 1) := by decide +kernel
theorem d_L_trace_4 : decode method_5_code 4 = .ok (.iload_n 1, 1) := by decide +kernel
theorem d_L_trace_5 : decode method_5_code 5 = .ok (.iload_n 2, 1) := by decide +kernel
theorem d_L_trace_6 : decode method_5_code 6 = .ok (.iload_n 3, 1) := by decide +kernel
theorem d_L_trace_7 : decode method_5_code 7 = .ok (.invokevirtual 19, 3) := by decide +kernel
theorem d_L_trace_10 : decode method_5_code 10 = .ok (.lastore, 1) := by decide +kernel
theorem d_L_trace_11 : decode method_5_code 11 = .ok (.goto 7, 3) := by decide +kernel
theorem d_L_trace_14 : decode method_5_code 14 = .ok (.astore 5, 2) := by decide +kernel
theorem d_L_trace_16 : decode method_5_code 16 = .ok (.iconst 1, 1) := by decide +kernel
theorem d_L_trace_17 : decode method_5_code 17 = .ok (.ireturn, 1) := by decide +kernel
theorem d_L_trace_18 : decode method_5_code 18 = .ok (.iconst 0, 1) := by decide +kernel
theorem d_L_trace_19 : decode method_5_code 19 = .ok (.ireturn, 1) := by decide +kernel
abbrev WS_L_trace (cI cL cZ : ClassId) (h0 a_currencyOf a_sortOf a_closingRates a_averageRates a_sums a_historicAmounts a_holdings a_report a_report_amounts a_report_stepAmounts a_report_groupAmounts a_report_outsidersCredits a_report_openPlaces a_out : Nat) (v_companies : Int32) (v_accounts : Int32) (v_reserve : Int32) (v_report_made : Int32) (v_report_companies : Int32) (v_report_accounts : Int32) (v_report_open : Int32) (v_report_stepAmounts : (Nat → Int64)) (v_out : Nat → Int64) : va_W := [(h0, .inr (2, [.int v_companies, .ref a_currencyOf, .int v_accounts, .ref a_sortOf, .int v_reserve, .ref a_closingRates, .ref a_averageRates, .ref a_sums, .ref a_historicAmounts, .ref a_holdings, .ref a_report])), (a_report, .inr (1, [.int v_report_made, .int v_report_companies, .int v_report_accounts, .ref a_report_amounts, .ref a_report_stepAmounts, .ref a_report_groupAmounts, .ref a_report_outsidersCredits, .ref a_report_openPlaces, .int v_report_open])), (a_report_stepAmounts, .inl (cL, 432, .inr (.inl v_report_stepAmounts))), (a_out, .inl (cL, 1, .inr (.inl v_out)))]
def wp_L_trace (p0 p1 p2 : Int32) (v_companies : Int32) (v_accounts : Int32) (v_report_made : Int32) (v_report_stepAmounts : (Nat → Int64)) (v_out : Nat → Int64) (post : Int32 → (Nat → Int64) → Prop) : Prop := wp_D_trace p0 p1 p2 v_companies v_accounts v_report_made v_report_stepAmounts (fun r _ => post 0 (vp_updL v_out 0 r)) (post 1 v_out)
abbrev ws_L_trace : List Cond := .codeWith y_L_trace method_5_code 6 (some .int) [(0, 11, 14, 13)] :: kxW
abbrev rm_L_trace : Room := { frames := 7, cells := 1, slots := 6, locals := 113 }
set_option maxHeartbeats 4000000 in
set_option maxRecDepth 100000 in
theorem c_L_trace (l : Launch) (hfl : l.flags = flags0) (dC : Nat → ClassId) (dI : Nat → Nat → Nat) (cI cL cZ : ClassId) (h0 a_currencyOf a_sortOf a_closingRates a_averageRates a_sums a_historicAmounts a_holdings a_report a_report_amounts a_report_stepAmounts a_report_groupAmounts a_report_outsidersCredits a_report_openPlaces a_out : Nat) (v_companies : Int32) (v_accounts : Int32) (v_reserve : Int32) (v_report_made : Int32) (v_report_companies : Int32) (v_report_accounts : Int32) (v_report_open : Int32) (v_report_stepAmounts : (Nat → Int64)) (v_out : Nat → Int64) (sz : Nat) (p0 p1 p2 : Int32) {post : Int32 → (Nat → Int64) → Prop} (hw : wp_L_trace p0 p1 p2 v_companies v_accounts v_report_made v_report_stepAmounts v_out post) : Met l y_L_trace ws_L_trace rm_L_trace (fun v U => kx_Pc (dC, dI) classes (kx_T cI cL cZ) (WS_L_trace cI cL cZ h0 a_currencyOf a_sortOf a_closingRates a_averageRates a_sums a_historicAmounts a_holdings a_report a_report_amounts a_report_stepAmounts a_report_groupAmounts a_report_outsidersCredits a_report_openPlaces a_out v_companies v_accounts v_reserve v_report_made v_report_companies v_report_accounts v_report_open v_report_stepAmounts v_out) sz [.ref h0, .int p0, .int p1, .int p2, .ref a_out] v U ∧ kt_N U) (va_Qi post (fun u t => kx_B (dC, dI) classes (va_A (WS_L_trace cI cL cZ h0 a_currencyOf a_sortOf a_closingRates a_averageRates a_sums a_historicAmounts a_holdings a_report a_report_amounts a_report_stepAmounts a_report_groupAmounts a_report_outsidersCredits a_report_openPlaces a_out v_companies v_accounts v_reserve v_report_made v_report_companies v_report_accounts v_report_open v_report_stepAmounts v_out) sz) (WS_L_trace cI cL cZ h0 a_currencyOf a_sortOf a_closingRates a_averageRates a_sums a_historicAmounts a_holdings a_report a_report_amounts a_report_stepAmounts a_report_groupAmounts a_report_outsidersCredits a_report_openPlaces a_out v_companies v_accounts v_reserve v_report_made v_report_companies v_report_accounts v_report_open v_report_stepAmounts u) t) (va_A (WS_L_trace cI cL cZ h0 a_currencyOf a_sortOf a_closingRates a_averageRates a_sums a_historicAmounts a_holdings a_report a_report_amounts a_report_stepAmounts a_report_groupAmounts a_report_outsidersCredits a_report_openPlaces a_out v_companies v_accounts v_reserve v_report_made v_report_companies v_report_accounts v_report_open v_report_stepAmounts v_out) sz)) 1 6 (va_A (WS_L_trace cI cL cZ h0 a_currencyOf a_sortOf a_closingRates a_averageRates a_sums a_historicAmounts a_holdings a_report a_report_amounts a_report_stepAmounts a_report_groupAmounts a_report_outsidersCredits a_report_openPlaces a_out v_companies v_accounts v_reserve v_report_made v_report_companies v_report_accounts v_report_open v_report_stepAmounts v_out) sz) := by
  refine va_MetW (cc := method_5_code) (maxL := 6) (ret := (some .int)) (hh := [(0, 11, 14, 13)]) (by decide) rfl ?_
  intro p e s m args below meth c s₁ B hml hv
  obtain ⟨⟨rfl, hsz, hP, hK, hD0, hN⟩, hT⟩ := hv
  have hx := B.exec
  have hb := B.bytes
  have hr := B.returns
  have hts := atoms_spec (ws := ws_L_trace) B.pre
  have hown : s.vm.findClass R_L = some m.cls := findClass_of_methodNamed B.named
  have hlocks := B.notSynchronized
  obtain ⟨m9, meth9, c9, hn9, hm9, hc9, -, -, htab, -⟩ := Cond.codeWith_spec (hts _ List.mem_cons_self)
  cases B.named.symm.trans hn9
  cases B.method.symm.trans hm9
  cases (Stand.of_body B).code.symm.trans hc9
  have htab := kt_tab htab
  subst hsz
  have hD := hD0.self (sz := s.heap.size)
  generalize hAe : va_A (WS_L_trace cI cL cZ h0 a_currencyOf a_sortOf a_closingRates a_averageRates a_sums a_historicAmounts a_holdings a_report a_report_amounts a_report_stepAmounts a_report_groupAmounts a_report_outsidersCredits a_report_openPlaces a_out v_companies v_accounts v_reserve v_report_made v_report_companies v_report_accounts v_report_open v_report_stepAmounts v_out) s.heap.size = A at hD ⊢
  have hA : ∀ q : Nat, s.heap.size ≤ q → A q := fun q h => by rw [← hAe]; exact Or.inr h
  have hS : va_S A s.heap s.heap [] := va_S.rf
  have hP : va_P (dC, dI) classes (WS_L_trace cI cL cZ h0 a_currencyOf a_sortOf a_closingRates a_averageRates a_sums a_historicAmounts a_holdings a_report a_report_amounts a_report_stepAmounts a_report_groupAmounts a_report_outsidersCredits a_report_openPlaces a_out v_companies v_accounts v_reserve v_report_made v_report_companies v_report_accounts v_report_open v_report_stepAmounts v_out) s.heap := hP
  have hl := lv_entry ([.ref h0, .int p0, .int p1, .int p2, .ref a_out]) (n := 6) (Nat.le_of_ble_eq_true rfl)
  rw [lg_entry_eq]
  generalize (lg_sl ([.ref h0, .int p0, .int p1, .int p2, .ref a_out]) ++ List.replicate (6 - (lg_sl ([.ref h0, .int p0, .int p1, .int p2, .ref a_out])).length) Slot.unset).toArray = ls at hl ⊢
  have hl : lv_has ls 6 [(0, .ref h0), (1, .int p0), (2, .int p1), (3, .int p2), (4, .ref a_out)] := hl
  unfold wp_L_trace at hw
  refine lv_aload hx hb d_L_trace_0 (lv_at hl 4 rfl) ?_
  refine lv_iconst (v := 0) hx hb d_L_trace_2 (by decide) ?_
  refine lv_aload_n hx hb d_L_trace_3 rfl (lv_at hl 0 rfl) ?_
  refine lv_iload_n hx hb d_L_trace_4 rfl (lv_at hl 1 rfl) ?_
  refine lv_iload_n hx hb d_L_trace_5 rfl (lv_at hl 2 rfl) ?_
  refine lv_iload_n hx hb d_L_trace_6 rfl (lv_at hl 3 rfl) ?_
  refine kt_call (As := [.int p0, .int p1, .int p2]) (rest := [.int 0, .ref a_out]) (x := ⟨0, 11, 14, 13⟩) hx hb (by rw [hml]; exact hl.1) hown (t_D_trace l hfl dC dI cI cL cZ h0 a_currencyOf a_sortOf a_closingRates a_averageRates a_sums a_historicAmounts a_holdings a_report a_report_amounts a_report_stepAmounts a_report_groupAmounts a_report_outsidersCredits a_report_openPlaces v_companies v_accounts v_reserve v_report_made v_report_companies v_report_accounts v_report_open v_report_stepAmounts s.heap.size p0 p1 p2 hw) (fun a U g mk q => ⟨kx_blind a U g mk q.1, q.2.called⟩) rfl rfl (Nat.le_of_ble_eq_true rfl) (Nat.le_of_ble_eq_true rfl) (pay_in hts (kx_good iw_433)) List.mem_cons_self (hts _ (kx_w iw_430)) (hts _ (kx_w iw_431)) (hts _ (kx_w iw_432)) (hts _ (kx_w iw_1)) (by decide) (show (parseMethodDescriptor y_D_trace.desc).map (fun d => d.parameters.length) = some 3 by decide +kernel) (va_recv (q0 := 0) (q := (R_D, F_D, 11)) hK hP rfl rfl) (fun U hU hW => ⟨(kx_preS hN hK hP hD [0, 1, 2] (by decide) rfl).2 U hU hW, hT.moved hW (fun q _ => by rw [hU])⟩) (Nat.le_of_ble_eq_true rfl) d_L_trace_7 (Nat.le_of_ble_eq_true rfl) (Nat.le_of_ble_eq_true rfl) htab (by decide) (by decide) (hts _ (kx_w iw_346)) (fun r hw => ?_) (fun hw xa H hz hq => ?_)
  ·
    refine va_last hx hb hK hP hD hS 3 1 rfl rfl (show vp_in 0 1 by unfold vp_in; decide) d_L_trace_10 (fun H locs hP hD hS => ?_)
    have hP : va_P (dC, dI) classes (WS_L_trace cI cL cZ h0 a_currencyOf a_sortOf a_closingRates a_averageRates a_sums a_historicAmounts a_holdings a_report a_report_amounts a_report_stepAmounts a_report_groupAmounts a_report_outsidersCredits a_report_openPlaces a_out v_companies v_accounts v_reserve v_report_made v_report_companies v_report_accounts v_report_open v_report_stepAmounts (vp_updL v_out 0 r)) H := hP
    have hD : va_D A (WS_L_trace cI cL cZ h0 a_currencyOf a_sortOf a_closingRates a_averageRates a_sums a_historicAmounts a_holdings a_report a_report_amounts a_report_stepAmounts a_report_groupAmounts a_report_outsidersCredits a_report_openPlaces a_out v_companies v_accounts v_reserve v_report_made v_report_companies v_report_accounts v_report_open v_report_stepAmounts (vp_updL v_out 0 r)) := hD
    refine lv_goto (tgt := 18) hx hb d_L_trace_11 rfl ?_
    refine lv_iconst (v := 0) hx hb d_L_trace_18 (by decide) ?_
    exact W.iret (v := 0) hx hb hr (fun t ht hW => ⟨⟨0, vp_updL v_out 0 r, rfl, hw, ⟨by rw [ht]; exact hP, hD⟩⟩, hS.F ht⟩) hS.2.2 d_L_trace_19
  ·
    have hP : va_P (dC, dI) classes (WS_L_trace cI cL cZ h0 a_currencyOf a_sortOf a_closingRates a_averageRates a_sums a_historicAmounts a_holdings a_report a_report_amounts a_report_stepAmounts a_report_groupAmounts a_report_outsidersCredits a_report_openPlaces a_out v_companies v_accounts v_reserve v_report_made v_report_companies v_report_accounts v_report_open v_report_stepAmounts v_out) H := hP.kept (fun k q h9 => hq q.1 ((hP k q h9).lt))
    have hS : va_S A s.heap H [] := ⟨hz, fun q h1 _ => hq q h1, fun _ h => by cases h⟩
    refine lv_astore (lv' := [(5, .ref xa), (0, .ref h0), (1, .int p0), (2, .int p1), (3, .int p2), (4, .ref a_out)]) hx hb d_L_trace_14 hl (by decide) rfl (fun ls hl => ?_)
    refine lv_iconst (v := 1) hx hb d_L_trace_16 (by decide) ?_
    exact W.iret (v := 1) hx hb hr (fun t ht hW => ⟨⟨1, v_out, rfl, hw, ⟨by rw [ht]; exact hP, hD⟩⟩, hS.F ht⟩) hS.2.2 d_L_trace_17
abbrev y_L_minority : MethodName := ⟨"ConsolidationDeskLaw", "minority", "(LConsolidationDesk;I[J)I"⟩
theorem d_L_minority_0 : decode method_6_code 0 = .ok (.aload_n 2, 1) := by decide +kernel
theorem d_L_minority_1 : decode method_6_code 1 = .ok (.iconst 0, 1) := by decide +kernel
theorem d_L_minority_2 : decode method_6_code 2 = .ok (.aload_n 0, 1) := by decide +kernel
theorem d_L_minority_3 : decode method_6_code 3 = .ok (.iload_n 1, 1) := by decide +kernel
theorem d_L_minority_4 : decode method_6_code 4 = .ok (.invokevirtual 22, 3) := by decide +kernel
theorem d_L_minority_7 : decode method_6_code 7 = .ok (.lastore, 1) := by decide +kernel
theorem d_L_minority_8 : decode method_6_code 8 = .ok (.goto 6, 3) := by decide +kernel
theorem d_L_minority_11 : decode method_6_code 11 = .ok (.astore_n 3, 1) := by decide +kernel
theorem d_L_minority_12 : decode method_6_code 12 = .ok (.iconst 1, 1) := by decide +kernel
theorem d_L_minority_13 : decode method_6_code 13 = .ok (.ireturn, 1) := by decide +kernel
theorem d_L_minority_14 : decode method_6_code 14 = .ok (.iconst 0, 1) := by decide +kernel
theorem d_L_minority_15 : decode method_6_code 15 = .ok (.ireturn, 1) := by decide +kernel
abbrev WS_L_minority (cI cL cZ : ClassId) (h0 a_currencyOf a_sortOf a_closingRates a_averageRates a_sums a_historicAmounts a_holdings a_report a_report_amounts a_report_stepAmounts a_report_groupAmounts a_report_outsidersCredits a_report_openPlaces a_out : Nat) (v_companies : Int32) (v_accounts : Int32) (v_reserve : Int32) (v_report_made : Int32) (v_report_companies : Int32) (v_report_accounts : Int32) (v_report_open : Int32) (v_report_outsidersCredits : (Nat → Int64)) (v_out : Nat → Int64) : va_W := [(h0, .inr (2, [.int v_companies, .ref a_currencyOf, .int v_accounts, .ref a_sortOf, .int v_reserve, .ref a_closingRates, .ref a_averageRates, .ref a_sums, .ref a_historicAmounts, .ref a_holdings, .ref a_report])), (a_report, .inr (1, [.int v_report_made, .int v_report_companies, .int v_report_accounts, .ref a_report_amounts, .ref a_report_stepAmounts, .ref a_report_groupAmounts, .ref a_report_outsidersCredits, .ref a_report_openPlaces, .int v_report_open])), (a_report_outsidersCredits, .inl (cL, 12, .inr (.inl v_report_outsidersCredits))), (a_out, .inl (cL, 1, .inr (.inl v_out)))]
def wp_L_minority (p0 : Int32) (v_companies : Int32) (v_report_made : Int32) (v_report_outsidersCredits : (Nat → Int64)) (v_out : Nat → Int64) (post : Int32 → (Nat → Int64) → Prop) : Prop := wp_D_minority p0 v_companies v_report_made v_report_outsidersCredits (fun r _ => post 0 (vp_updL v_out 0 r)) (post 1 v_out)
abbrev ws_L_minority : List Cond := .codeWith y_L_minority method_6_code 4 (some .int) [(0, 8, 11, 13)] :: kxW
abbrev rm_L_minority : Room := { frames := 7, cells := 1, slots := 6, locals := 111 }
set_option maxHeartbeats 4000000 in
set_option maxRecDepth 100000 in
theorem c_L_minority (l : Launch) (hfl : l.flags = flags0) (dC : Nat → ClassId) (dI : Nat → Nat → Nat) (cI cL cZ : ClassId) (h0 a_currencyOf a_sortOf a_closingRates a_averageRates a_sums a_historicAmounts a_holdings a_report a_report_amounts a_report_stepAmounts a_report_groupAmounts a_report_outsidersCredits a_report_openPlaces a_out : Nat) (v_companies : Int32) (v_accounts : Int32) (v_reserve : Int32) (v_report_made : Int32) (v_report_companies : Int32) (v_report_accounts : Int32) (v_report_open : Int32) (v_report_outsidersCredits : (Nat → Int64)) (v_out : Nat → Int64) (sz : Nat) (p0 : Int32) {post : Int32 → (Nat → Int64) → Prop} (hw : wp_L_minority p0 v_companies v_report_made v_report_outsidersCredits v_out post) : Met l y_L_minority ws_L_minority rm_L_minority (fun v U => kx_Pc (dC, dI) classes (kx_T cI cL cZ) (WS_L_minority cI cL cZ h0 a_currencyOf a_sortOf a_closingRates a_averageRates a_sums a_historicAmounts a_holdings a_report a_report_amounts a_report_stepAmounts a_report_groupAmounts a_report_outsidersCredits a_report_openPlaces a_out v_companies v_accounts v_reserve v_report_made v_report_companies v_report_accounts v_report_open v_report_outsidersCredits v_out) sz [.ref h0, .int p0, .ref a_out] v U ∧ kt_N U) (va_Qi post (fun u t => kx_B (dC, dI) classes (va_A (WS_L_minority cI cL cZ h0 a_currencyOf a_sortOf a_closingRates a_averageRates a_sums a_historicAmounts a_holdings a_report a_report_amounts a_report_stepAmounts a_report_groupAmounts a_report_outsidersCredits a_report_openPlaces a_out v_companies v_accounts v_reserve v_report_made v_report_companies v_report_accounts v_report_open v_report_outsidersCredits v_out) sz) (WS_L_minority cI cL cZ h0 a_currencyOf a_sortOf a_closingRates a_averageRates a_sums a_historicAmounts a_holdings a_report a_report_amounts a_report_stepAmounts a_report_groupAmounts a_report_outsidersCredits a_report_openPlaces a_out v_companies v_accounts v_reserve v_report_made v_report_companies v_report_accounts v_report_open v_report_outsidersCredits u) t) (va_A (WS_L_minority cI cL cZ h0 a_currencyOf a_sortOf a_closingRates a_averageRates a_sums a_historicAmounts a_holdings a_report a_report_amounts a_report_stepAmounts a_report_groupAmounts a_report_outsidersCredits a_report_openPlaces a_out v_companies v_accounts v_reserve v_report_made v_report_companies v_report_accounts v_report_open v_report_outsidersCredits v_out) sz)) 1 6 (va_A (WS_L_minority cI cL cZ h0 a_currencyOf a_sortOf a_closingRates a_averageRates a_sums a_historicAmounts a_holdings a_report a_report_amounts a_report_stepAmounts a_report_groupAmounts a_report_outsidersCredits a_report_openPlaces a_out v_companies v_accounts v_reserve v_report_made v_report_companies v_report_accounts v_report_open v_report_outsidersCredits v_out) sz) := by
  refine va_MetW (cc := method_6_code) (maxL := 4) (ret := (some .int)) (hh := [(0, 8, 11, 13)]) (by decide) rfl ?_
  intro p e s m args below meth c s₁ B hml hv
  obtain ⟨⟨rfl, hsz, hP, hK, hD0, hN⟩, hT⟩ := hv
  have hx := B.exec
  have hb := B.bytes
  have hr := B.returns
  have hts := atoms_spec (ws := ws_L_minority) B.pre
  have hown : s.vm.findClass R_L = some m.cls := findClass_of_methodNamed B.named
  have hlocks := B.notSynchronized
  obtain ⟨m9, meth9, c9, hn9, hm9, hc9, -, -, htab, -⟩ := Cond.codeWith_spec (hts _ List.mem_cons_self)
  cases B.named.symm.trans hn9
  cases B.method.symm.trans hm9
  cases (Stand.of_body B).code.symm.trans hc9
  have htab := kt_tab htab
  subst hsz
  have hD := hD0.self (sz := s.heap.size)
  generalize hAe : va_A (WS_L_minority cI cL cZ h0 a_currencyOf a_sortOf a_closingRates a_averageRates a_sums a_historicAmounts a_holdings a_report a_report_amounts a_report_stepAmounts a_report_groupAmounts a_report_outsidersCredits a_report_openPlaces a_out v_companies v_accounts v_reserve v_report_made v_report_companies v_report_accounts v_report_open v_report_outsidersCredits v_out) s.heap.size = A at hD ⊢
  have hA : ∀ q : Nat, s.heap.size ≤ q → A q := fun q h => by rw [← hAe]; exact Or.inr h
  have hS : va_S A s.heap s.heap [] := va_S.rf
  have hP : va_P (dC, dI) classes (WS_L_minority cI cL cZ h0 a_currencyOf a_sortOf a_closingRates a_averageRates a_sums a_historicAmounts a_holdings a_report a_report_amounts a_report_stepAmounts a_report_groupAmounts a_report_outsidersCredits a_report_openPlaces a_out v_companies v_accounts v_reserve v_report_made v_report_companies v_report_accounts v_report_open v_report_outsidersCredits v_out) s.heap := hP
  have hl := lv_entry ([.ref h0, .int p0, .ref a_out]) (n := 4) (Nat.le_of_ble_eq_true rfl)
  rw [lg_entry_eq]
  generalize (lg_sl ([.ref h0, .int p0, .ref a_out]) ++ List.replicate (4 - (lg_sl ([.ref h0, .int p0, .ref a_out])).length) Slot.unset).toArray = ls at hl ⊢
  have hl : lv_has ls 4 [(0, .ref h0), (1, .int p0), (2, .ref a_out)] := hl
  unfold wp_L_minority at hw
  refine lv_aload_n hx hb d_L_minority_0 rfl (lv_at hl 2 rfl) ?_
  refine lv_iconst (v := 0) hx hb d_L_minority_1 (by decide) ?_
  refine lv_aload_n hx hb d_L_minority_2 rfl (lv_at hl 0 rfl) ?_
  refine lv_iload_n hx hb d_L_minority_3 rfl (lv_at hl 1 rfl) ?_
  refine kt_call (As := [.int p0]) (rest := [.int 0, .ref a_out]) (x := ⟨0, 8, 11, 13⟩) hx hb (by rw [hml]; exact hl.1) hown (t_D_minority l hfl dC dI cI cL cZ h0 a_currencyOf a_sortOf a_closingRates a_averageRates a_sums a_historicAmounts a_holdings a_report a_report_amounts a_report_stepAmounts a_report_groupAmounts a_report_outsidersCredits a_report_openPlaces v_companies v_accounts v_reserve v_report_made v_report_companies v_report_accounts v_report_open v_report_outsidersCredits s.heap.size p0 hw) (fun a U g mk q => ⟨kx_blind a U g mk q.1, q.2.called⟩) rfl rfl (Nat.le_of_ble_eq_true rfl) (Nat.le_of_ble_eq_true rfl) (pay_in hts (kx_good iw_440)) List.mem_cons_self (hts _ (kx_w iw_437)) (hts _ (kx_w iw_438)) (hts _ (kx_w iw_439)) (hts _ (kx_w iw_1)) (by decide) (show (parseMethodDescriptor y_D_minority.desc).map (fun d => d.parameters.length) = some 1 by decide +kernel) (va_recv (q0 := 0) (q := (R_D, F_D, 11)) hK hP rfl rfl) (fun U hU hW => ⟨(kx_preS hN hK hP hD [0, 1, 2] (by decide) rfl).2 U hU hW, hT.moved hW (fun q _ => by rw [hU])⟩) (Nat.le_of_ble_eq_true rfl) d_L_minority_4 (Nat.le_of_ble_eq_true rfl) (Nat.le_of_ble_eq_true rfl) htab (by decide) (by decide) (hts _ (kx_w iw_346)) (fun r hw => ?_) (fun hw xa H hz hq => ?_)
  ·
    refine va_last hx hb hK hP hD hS 3 1 rfl rfl (show vp_in 0 1 by unfold vp_in; decide) d_L_minority_7 (fun H locs hP hD hS => ?_)
    have hP : va_P (dC, dI) classes (WS_L_minority cI cL cZ h0 a_currencyOf a_sortOf a_closingRates a_averageRates a_sums a_historicAmounts a_holdings a_report a_report_amounts a_report_stepAmounts a_report_groupAmounts a_report_outsidersCredits a_report_openPlaces a_out v_companies v_accounts v_reserve v_report_made v_report_companies v_report_accounts v_report_open v_report_outsidersCredits (vp_updL v_out 0 r)) H := hP
    have hD : va_D A (WS_L_minority cI cL cZ h0 a_currencyOf a_sortOf a_closingRates a_averageRates a_sums a_historicAmounts a_holdings a_report a_report_amounts a_report_stepAmounts a_report_groupAmounts a_report_outsidersCredits a_report_openPlaces a_out v_companies v_accounts v_reserve v_report_made v_report_companies v_report_accounts v_report_open v_report_outsidersCredits (vp_updL v_out 0 r)) := hD
    refine lv_goto (tgt := 14) hx hb d_L_minority_8 rfl ?_
    refine lv_iconst (v := 0) hx hb d_L_minority_14 (by decide) ?_
    exact W.iret (v := 0) hx hb hr (fun t ht hW => ⟨⟨0, vp_updL v_out 0 r, rfl, hw, ⟨by rw [ht]; exact hP, hD⟩⟩, hS.F ht⟩) hS.2.2 d_L_minority_15
  ·
    have hP : va_P (dC, dI) classes (WS_L_minority cI cL cZ h0 a_currencyOf a_sortOf a_closingRates a_averageRates a_sums a_historicAmounts a_holdings a_report a_report_amounts a_report_stepAmounts a_report_groupAmounts a_report_outsidersCredits a_report_openPlaces a_out v_companies v_accounts v_reserve v_report_made v_report_companies v_report_accounts v_report_open v_report_outsidersCredits v_out) H := hP.kept (fun k q h9 => hq q.1 ((hP k q h9).lt))
    have hS : va_S A s.heap H [] := ⟨hz, fun q h1 _ => hq q h1, fun _ h => by cases h⟩
    refine lv_astore_n (lv' := [(3, .ref xa), (0, .ref h0), (1, .int p0), (2, .ref a_out)]) hx hb d_L_minority_11 rfl hl (by decide) rfl (fun ls hl => ?_)
    refine lv_iconst (v := 1) hx hb d_L_minority_12 (by decide) ?_
    exact W.iret (v := 1) hx hb hr (fun t ht hW => ⟨⟨1, v_out, rfl, hw, ⟨by rw [ht]; exact hP, hD⟩⟩, hS.F ht⟩) hS.2.2 d_L_minority_13
abbrev y_L_openItem : MethodName := ⟨"ConsolidationDeskLaw", "openItem", "(LConsolidationDesk;II[J)I"⟩
theorem d_L_openItem_0 : decode method_7_code 0 = .ok (.aload_n 3, 1) := by decide +kernel
theorem d_L_openItem_1 : decode method_7_code 1 = .ok (.iconst 0, 1) := by decide +kernel
theorem d_L_openItem_2 : decode method_7_code 2 = .ok (.aload_n 0, 1) := by decide +kernel
theorem d_L_openItem_3 : decode method_7_code 3 = .ok (.iload_n 1, 1) := by decide +kernel
theorem d_L_openItem_4 : decode method_7_code 4 = .ok (.iload_n 2, 1) := by decide +kernel
theorem d_L_openItem_5 : decode method_7_code 5 = .ok (.invokevirtual 25, 3) := by decide +kernel
theorem d_L_openItem_8 : decode method_7_code 8 = .ok (.lastore, 1) := by decide +kernel
theorem d_L_openItem_9 : decode method_7_code 9 = .ok (.goto 7, 3) := by decide +kernel
theorem d_L_openItem_12 : decode method_7_code 12 = .ok (.astore 4, 2) := by decide +kernel
theorem d_L_openItem_14 : decode method_7_code 14 = .ok (.iconst 1, 1) := by decide +kernel
theorem d_L_openItem_15 : decode method_7_code 15 = .ok (.ireturn, 1) := by decide +kernel
theorem d_L_openItem_16 : decode method_7_code 16 = .ok (.iconst 0, 1) := by decide +kernel
theorem d_L_openItem_17 : decode method_7_code 17 = .ok (.ireturn, 1) := by decide +kernel
abbrev WS_L_openItem (cI cL cZ : ClassId) (h0 a_currencyOf a_sortOf a_closingRates a_averageRates a_sums a_historicAmounts a_holdings a_report a_report_amounts a_report_stepAmounts a_report_groupAmounts a_report_outsidersCredits a_report_openPlaces a_out : Nat) (v_companies : Int32) (v_accounts : Int32) (v_reserve : Int32) (v_report_made : Int32) (v_report_companies : Int32) (v_report_accounts : Int32) (v_report_open : Int32) (v_report_amounts : (Nat → Int64)) (v_report_openPlaces : (Nat → Int32)) (v_out : Nat → Int64) : va_W := [(h0, .inr (2, [.int v_companies, .ref a_currencyOf, .int v_accounts, .ref a_sortOf, .int v_reserve, .ref a_closingRates, .ref a_averageRates, .ref a_sums, .ref a_historicAmounts, .ref a_holdings, .ref a_report])), (a_report, .inr (1, [.int v_report_made, .int v_report_companies, .int v_report_accounts, .ref a_report_amounts, .ref a_report_stepAmounts, .ref a_report_groupAmounts, .ref a_report_outsidersCredits, .ref a_report_openPlaces, .int v_report_open])), (a_report_amounts, .inl (cL, 1872, .inr (.inl v_report_amounts))), (a_report_openPlaces, .inl (cI, 1584, .inl v_report_openPlaces)), (a_out, .inl (cL, 1, .inr (.inl v_out)))]
def wp_L_openItem (p0 p1 : Int32) (v_report_open : Int32) (v_report_amounts : (Nat → Int64)) (v_report_openPlaces : (Nat → Int32)) (v_out : Nat → Int64) (post : Int32 → (Nat → Int64) → Prop) : Prop := wp_D_openItem p0 p1 v_report_open v_report_amounts v_report_openPlaces (fun r _ => post 0 (vp_updL v_out 0 r)) (post 1 v_out)
abbrev ws_L_openItem : List Cond := .codeWith y_L_openItem method_7_code 5 (some .int) [(0, 9, 12, 13)] :: kxW
abbrev rm_L_openItem : Room := { frames := 7, cells := 1, slots := 6, locals := 112 }
set_option maxHeartbeats 4000000 in
set_option maxRecDepth 100000 in
theorem c_L_openItem (l : Launch) (hfl : l.flags = flags0) (dC : Nat → ClassId) (dI : Nat → Nat → Nat) (cI cL cZ : ClassId) (h0 a_currencyOf a_sortOf a_closingRates a_averageRates a_sums a_historicAmounts a_holdings a_report a_report_amounts a_report_stepAmounts a_report_groupAmounts a_report_outsidersCredits a_report_openPlaces a_out : Nat) (v_companies : Int32) (v_accounts : Int32) (v_reserve : Int32) (v_report_made : Int32) (v_report_companies : Int32) (v_report_accounts : Int32) (v_report_open : Int32) (v_report_amounts : (Nat → Int64)) (v_report_openPlaces : (Nat → Int32)) (v_out : Nat → Int64) (sz : Nat) (p0 p1 : Int32) {post : Int32 → (Nat → Int64) → Prop} (hw : wp_L_openItem p0 p1 v_report_open v_report_amounts v_report_openPlaces v_out post) : Met l y_L_openItem ws_L_openItem rm_L_openItem (fun v U => kx_Pc (dC, dI) classes (kx_T cI cL cZ) (WS_L_openItem cI cL cZ h0 a_currencyOf a_sortOf a_closingRates a_averageRates a_sums a_historicAmounts a_holdings a_report a_report_amounts a_report_stepAmounts a_report_groupAmounts a_report_outsidersCredits a_report_openPlaces a_out v_companies v_accounts v_reserve v_report_made v_report_companies v_report_accounts v_report_open v_report_amounts v_report_openPlaces v_out) sz [.ref h0, .int p0, .int p1, .ref a_out] v U ∧ kt_N U) (va_Qi post (fun u t => kx_B (dC, dI) classes (va_A (WS_L_openItem cI cL cZ h0 a_currencyOf a_sortOf a_closingRates a_averageRates a_sums a_historicAmounts a_holdings a_report a_report_amounts a_report_stepAmounts a_report_groupAmounts a_report_outsidersCredits a_report_openPlaces a_out v_companies v_accounts v_reserve v_report_made v_report_companies v_report_accounts v_report_open v_report_amounts v_report_openPlaces v_out) sz) (WS_L_openItem cI cL cZ h0 a_currencyOf a_sortOf a_closingRates a_averageRates a_sums a_historicAmounts a_holdings a_report a_report_amounts a_report_stepAmounts a_report_groupAmounts a_report_outsidersCredits a_report_openPlaces a_out v_companies v_accounts v_reserve v_report_made v_report_companies v_report_accounts v_report_open v_report_amounts v_report_openPlaces u) t) (va_A (WS_L_openItem cI cL cZ h0 a_currencyOf a_sortOf a_closingRates a_averageRates a_sums a_historicAmounts a_holdings a_report a_report_amounts a_report_stepAmounts a_report_groupAmounts a_report_outsidersCredits a_report_openPlaces a_out v_companies v_accounts v_reserve v_report_made v_report_companies v_report_accounts v_report_open v_report_amounts v_report_openPlaces v_out) sz)) 1 6 (va_A (WS_L_openItem cI cL cZ h0 a_currencyOf a_sortOf a_closingRates a_averageRates a_sums a_historicAmounts a_holdings a_report a_report_amounts a_report_stepAmounts a_report_groupAmounts a_report_outsidersCredits a_report_openPlaces a_out v_companies v_accounts v_reserve v_report_made v_report_companies v_report_accounts v_report_open v_report_amounts v_report_openPlaces v_out) sz) := by
  refine va_MetW (cc := method_7_code) (maxL := 5) (ret := (some .int)) (hh := [(0, 9, 12, 13)]) (by decide) rfl ?_
  intro p e s m args below meth c s₁ B hml hv
  obtain ⟨⟨rfl, hsz, hP, hK, hD0, hN⟩, hT⟩ := hv
  have hx := B.exec
  have hb := B.bytes
  have hr := B.returns
  have hts := atoms_spec (ws := ws_L_openItem) B.pre
  have hown : s.vm.findClass R_L = some m.cls := findClass_of_methodNamed B.named
  have hlocks := B.notSynchronized
  obtain ⟨m9, meth9, c9, hn9, hm9, hc9, -, -, htab, -⟩ := Cond.codeWith_spec (hts _ List.mem_cons_self)
  cases B.named.symm.trans hn9
  cases B.method.symm.trans hm9
  cases (Stand.of_body B).code.symm.trans hc9
  have htab := kt_tab htab
  subst hsz
  have hD := hD0.self (sz := s.heap.size)
  generalize hAe : va_A (WS_L_openItem cI cL cZ h0 a_currencyOf a_sortOf a_closingRates a_averageRates a_sums a_historicAmounts a_holdings a_report a_report_amounts a_report_stepAmounts a_report_groupAmounts a_report_outsidersCredits a_report_openPlaces a_out v_companies v_accounts v_reserve v_report_made v_report_companies v_report_accounts v_report_open v_report_amounts v_report_openPlaces v_out) s.heap.size = A at hD ⊢
  have hA : ∀ q : Nat, s.heap.size ≤ q → A q := fun q h => by rw [← hAe]; exact Or.inr h
  have hS : va_S A s.heap s.heap [] := va_S.rf
  have hP : va_P (dC, dI) classes (WS_L_openItem cI cL cZ h0 a_currencyOf a_sortOf a_closingRates a_averageRates a_sums a_historicAmounts a_holdings a_report a_report_amounts a_report_stepAmounts a_report_groupAmounts a_report_outsidersCredits a_report_openPlaces a_out v_companies v_accounts v_reserve v_report_made v_report_companies v_report_accounts v_report_open v_report_amounts v_report_openPlaces v_out) s.heap := hP
  have hl := lv_entry ([.ref h0, .int p0, .int p1, .ref a_out]) (n := 5) (Nat.le_of_ble_eq_true rfl)
  rw [lg_entry_eq]
  generalize (lg_sl ([.ref h0, .int p0, .int p1, .ref a_out]) ++ List.replicate (5 - (lg_sl ([.ref h0, .int p0, .int p1, .ref a_out])).length) Slot.unset).toArray = ls at hl ⊢
  have hl : lv_has ls 5 [(0, .ref h0), (1, .int p0), (2, .int p1), (3, .ref a_out)] := hl
  unfold wp_L_openItem at hw
  refine lv_aload_n hx hb d_L_openItem_0 rfl (lv_at hl 3 rfl) ?_
  refine lv_iconst (v := 0) hx hb d_L_openItem_1 (by decide) ?_
  refine lv_aload_n hx hb d_L_openItem_2 rfl (lv_at hl 0 rfl) ?_
  refine lv_iload_n hx hb d_L_openItem_3 rfl (lv_at hl 1 rfl) ?_
  refine lv_iload_n hx hb d_L_openItem_4 rfl (lv_at hl 2 rfl) ?_
  refine kt_call (As := [.int p0, .int p1]) (rest := [.int 0, .ref a_out]) (x := ⟨0, 9, 12, 13⟩) hx hb (by rw [hml]; exact hl.1) hown (t_D_openItem l hfl dC dI cI cL cZ h0 a_currencyOf a_sortOf a_closingRates a_averageRates a_sums a_historicAmounts a_holdings a_report a_report_amounts a_report_stepAmounts a_report_groupAmounts a_report_outsidersCredits a_report_openPlaces v_companies v_accounts v_reserve v_report_made v_report_companies v_report_accounts v_report_open v_report_amounts v_report_openPlaces s.heap.size p0 p1 hw) (fun a U g mk q => ⟨kx_blind a U g mk q.1, q.2.called⟩) rfl rfl (Nat.le_of_ble_eq_true rfl) (Nat.le_of_ble_eq_true rfl) (pay_in hts (kx_good iw_451)) List.mem_cons_self (hts _ (kx_w iw_448)) (hts _ (kx_w iw_449)) (hts _ (kx_w iw_450)) (hts _ (kx_w iw_1)) (by decide) (show (parseMethodDescriptor y_D_openItem.desc).map (fun d => d.parameters.length) = some 2 by decide +kernel) (va_recv (q0 := 0) (q := (R_D, F_D, 11)) hK hP rfl rfl) (fun U hU hW => ⟨(kx_preS hN hK hP hD [0, 1, 2, 3] (by decide) rfl).2 U hU hW, hT.moved hW (fun q _ => by rw [hU])⟩) (Nat.le_of_ble_eq_true rfl) d_L_openItem_5 (Nat.le_of_ble_eq_true rfl) (Nat.le_of_ble_eq_true rfl) htab (by decide) (by decide) (hts _ (kx_w iw_346)) (fun r hw => ?_) (fun hw xa H hz hq => ?_)
  ·
    refine va_last hx hb hK hP hD hS 4 1 rfl rfl (show vp_in 0 1 by unfold vp_in; decide) d_L_openItem_8 (fun H locs hP hD hS => ?_)
    have hP : va_P (dC, dI) classes (WS_L_openItem cI cL cZ h0 a_currencyOf a_sortOf a_closingRates a_averageRates a_sums a_historicAmounts a_holdings a_report a_report_amounts a_report_stepAmounts a_report_groupAmounts a_report_outsidersCredits a_report_openPlaces a_out v_companies v_accounts v_reserve v_report_made v_report_companies v_report_accounts v_report_open v_report_amounts v_report_openPlaces (vp_updL v_out 0 r)) H := hP
    have hD : va_D A (WS_L_openItem cI cL cZ h0 a_currencyOf a_sortOf a_closingRates a_averageRates a_sums a_historicAmounts a_holdings a_report a_report_amounts a_report_stepAmounts a_report_groupAmounts a_report_outsidersCredits a_report_openPlaces a_out v_companies v_accounts v_reserve v_report_made v_report_companies v_report_accounts v_report_open v_report_amounts v_report_openPlaces (vp_updL v_out 0 r)) := hD
    refine lv_goto (tgt := 16) hx hb d_L_openItem_9 rfl ?_
    refine lv_iconst (v := 0) hx hb d_L_openItem_16 (by decide) ?_
    exact W.iret (v := 0) hx hb hr (fun t ht hW => ⟨⟨0, vp_updL v_out 0 r, rfl, hw, ⟨by rw [ht]; exact hP, hD⟩⟩, hS.F ht⟩) hS.2.2 d_L_openItem_17
  ·
    have hP : va_P (dC, dI) classes (WS_L_openItem cI cL cZ h0 a_currencyOf a_sortOf a_closingRates a_averageRates a_sums a_historicAmounts a_holdings a_report a_report_amounts a_report_stepAmounts a_report_groupAmounts a_report_outsidersCredits a_report_openPlaces a_out v_companies v_accounts v_reserve v_report_made v_report_companies v_report_accounts v_report_open v_report_amounts v_report_openPlaces v_out) H := hP.kept (fun k q h9 => hq q.1 ((hP k q h9).lt))
    have hS : va_S A s.heap H [] := ⟨hz, fun q h1 _ => hq q h1, fun _ h => by cases h⟩
    refine lv_astore (lv' := [(4, .ref xa), (0, .ref h0), (1, .int p0), (2, .int p1), (3, .ref a_out)]) hx hb d_L_openItem_12 hl (by decide) rfl (fun ls hl => ?_)
    refine lv_iconst (v := 1) hx hb d_L_openItem_14 (by decide) ?_
    exact W.iret (v := 1) hx hb hr (fun t ht hW => ⟨⟨1, v_out, rfl, hw, ⟨by rw [ht]; exact hP, hD⟩⟩, hS.F ht⟩) hS.2.2 d_L_openItem_15
