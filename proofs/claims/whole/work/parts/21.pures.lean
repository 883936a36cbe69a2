theorem iw_11 : (Jvm.Cond.initialized "java/util/NoSuchElementException") ∈ kxW := List.mem_filter.mpr ⟨List.mem_append_right _ (List.mem_of_getElem? (i := 11) (by decide +kernel)), by decide +kernel⟩
theorem iw_351 : (Jvm.Cond.classLink "ConsolidationDesk" (86 : Nat) "java/util/NoSuchElementException") ∈ kxW := List.mem_filter.mpr ⟨List.mem_append_right _ (List.mem_of_getElem? (i := 351) (by decide +kernel)), by decide +kernel⟩
theorem iw_419 : (Jvm.Cond.methodLink "ConsolidationDesk" (125 : Nat) ({ cls := "ConsolidationDesk$Report", name := "isMade", desc := "()Z" } : Jvm.MethodName)) ∈ kxW := List.mem_filter.mpr ⟨List.mem_append_right _ (List.mem_of_getElem? (i := 419) (by decide +kernel)), by decide +kernel⟩
theorem iw_420 : (Jvm.Cond.instanceMethod ({ cls := "ConsolidationDesk$Report", name := "isMade", desc := "()Z" } : Jvm.MethodName)) ∈ kxW := List.mem_filter.mpr ⟨List.mem_append_right _ (List.mem_of_getElem? (i := 420) (by decide +kernel)), by decide +kernel⟩
theorem iw_421 : (Jvm.Cond.selects "ConsolidationDesk$Report" ({ cls := "ConsolidationDesk$Report", name := "isMade", desc := "()Z" } : Jvm.MethodName) ({ cls := "ConsolidationDesk$Report", name := "isMade", desc := "()Z" } : Jvm.MethodName)) ∈ kxW := List.mem_filter.mpr ⟨List.mem_append_right _ (List.mem_of_getElem? (i := 421) (by decide +kernel)), by decide +kernel⟩
theorem iw_422 : (Jvm.Cond.code ({ cls := "ConsolidationDesk$Report", name := "isMade", desc := "()Z" } : Jvm.MethodName) prog_3_method_9_code (1 : Nat) (Option.some Jvm.ClassFile.FieldType.boolean)) ∈ kxW := List.mem_filter.mpr ⟨List.mem_append_right _ (List.mem_of_getElem? (i := 422) (by decide +kernel)), by decide +kernel⟩
theorem iw_423 : (Jvm.Cond.methodLink "ConsolidationDesk" (129 : Nat) ({ cls := "ConsolidationDesk$Report", name := "groupAmount", desc := "(I)J" } : Jvm.MethodName)) ∈ kxW := List.mem_filter.mpr ⟨List.mem_append_right _ (List.mem_of_getElem? (i := 423) (by decide +kernel)), by decide +kernel⟩
theorem iw_424 : (Jvm.Cond.instanceMethod ({ cls := "ConsolidationDesk$Report", name := "groupAmount", desc := "(I)J" } : Jvm.MethodName)) ∈ kxW := List.mem_filter.mpr ⟨List.mem_append_right _ (List.mem_of_getElem? (i := 424) (by decide +kernel)), by decide +kernel⟩
theorem iw_425 : (Jvm.Cond.selects "ConsolidationDesk$Report" ({ cls := "ConsolidationDesk$Report", name := "groupAmount", desc := "(I)J" } : Jvm.MethodName) ({ cls := "ConsolidationDesk$Report", name := "groupAmount", desc := "(I)J" } : Jvm.MethodName)) ∈ kxW := List.mem_filter.mpr ⟨List.mem_append_right _ (List.mem_of_getElem? (i := 425) (by decide +kernel)), by decide +kernel⟩
theorem iw_426 : (Jvm.Cond.code ({ cls := "ConsolidationDesk$Report", name := "groupAmount", desc := "(I)J" } : Jvm.MethodName) prog_3_method_10_code (2 : Nat) (Option.some Jvm.ClassFile.FieldType.long)) ∈ kxW := List.mem_filter.mpr ⟨List.mem_append_right _ (List.mem_of_getElem? (i := 426) (by decide +kernel)), by decide +kernel⟩
theorem iw_441 : (Jvm.Cond.methodLink "ConsolidationDesk" (136 : Nat) ({ cls := "ConsolidationDesk$Report", name := "outsidersCredit", desc := "(I)J" } : Jvm.MethodName)) ∈ kxW := List.mem_filter.mpr ⟨List.mem_append_right _ (List.mem_of_getElem? (i := 441) (by decide +kernel)), by decide +kernel⟩
theorem iw_442 : (Jvm.Cond.instanceMethod ({ cls := "ConsolidationDesk$Report", name := "outsidersCredit", desc := "(I)J" } : Jvm.MethodName)) ∈ kxW := List.mem_filter.mpr ⟨List.mem_append_right _ (List.mem_of_getElem? (i := 442) (by decide +kernel)), by decide +kernel⟩
theorem iw_443 : (Jvm.Cond.selects "ConsolidationDesk$Report" ({ cls := "ConsolidationDesk$Report", name := "outsidersCredit", desc := "(I)J" } : Jvm.MethodName) ({ cls := "ConsolidationDesk$Report", name := "outsidersCredit", desc := "(I)J" } : Jvm.MethodName)) ∈ kxW := List.mem_filter.mpr ⟨List.mem_append_right _ (List.mem_of_getElem? (i := 443) (by decide +kernel)), by decide +kernel⟩
theorem iw_444 : (Jvm.Cond.code ({ cls := "ConsolidationDesk$Report", name := "outsidersCredit", desc := "(I)J" } : Jvm.MethodName) prog_3_method_12_code (2 : Nat) (Option.some Jvm.ClassFile.FieldType.long)) ∈ kxW := List.mem_filter.mpr ⟨List.mem_append_right _ (List.mem_of_getElem? (i := 444) (by decide +kernel)), by decide +kernel⟩
theorem iw_452 : (Jvm.Cond.methodLink "ConsolidationDesk" (142 : Nat) ({ cls := "ConsolidationDesk$Report", name := "openCompany", desc := "(I)I" } : Jvm.MethodName)) ∈ kxW := List.mem_filter.mpr ⟨List.mem_append_right _ (List.mem_of_getElem? (i := 452) (by decide +kernel)), by decide +kernel⟩
theorem iw_453 : (Jvm.Cond.instanceMethod ({ cls := "ConsolidationDesk$Report", name := "openCompany", desc := "(I)I" } : Jvm.MethodName)) ∈ kxW := List.mem_filter.mpr ⟨List.mem_append_right _ (List.mem_of_getElem? (i := 453) (by decide +kernel)), by decide +kernel⟩
theorem iw_454 : (Jvm.Cond.selects "ConsolidationDesk$Report" ({ cls := "ConsolidationDesk$Report", name := "openCompany", desc := "(I)I" } : Jvm.MethodName) ({ cls := "ConsolidationDesk$Report", name := "openCompany", desc := "(I)I" } : Jvm.MethodName)) ∈ kxW := List.mem_filter.mpr ⟨List.mem_append_right _ (List.mem_of_getElem? (i := 454) (by decide +kernel)), by decide +kernel⟩
theorem iw_455 : (Jvm.Cond.code ({ cls := "ConsolidationDesk$Report", name := "openCompany", desc := "(I)I" } : Jvm.MethodName) prog_3_method_14_code (2 : Nat) (Option.some Jvm.ClassFile.FieldType.int)) ∈ kxW := List.mem_filter.mpr ⟨List.mem_append_right _ (List.mem_of_getElem? (i := 455) (by decide +kernel)), by decide +kernel⟩
theorem iw_456 : (Jvm.Cond.methodLink "ConsolidationDesk" (146 : Nat) ({ cls := "ConsolidationDesk$Report", name := "openPartner", desc := "(I)I" } : Jvm.MethodName)) ∈ kxW := List.mem_filter.mpr ⟨List.mem_append_right _ (List.mem_of_getElem? (i := 456) (by decide +kernel)), by decide +kernel⟩
theorem iw_457 : (Jvm.Cond.instanceMethod ({ cls := "ConsolidationDesk$Report", name := "openPartner", desc := "(I)I" } : Jvm.MethodName)) ∈ kxW := List.mem_filter.mpr ⟨List.mem_append_right _ (List.mem_of_getElem? (i := 457) (by decide +kernel)), by decide +kernel⟩
theorem iw_458 : (Jvm.Cond.selects "ConsolidationDesk$Report" ({ cls := "ConsolidationDesk$Report", name := "openPartner", desc := "(I)I" } : Jvm.MethodName) ({ cls := "ConsolidationDesk$Report", name := "openPartner", desc := "(I)I" } : Jvm.MethodName)) ∈ kxW := List.mem_filter.mpr ⟨List.mem_append_right _ (List.mem_of_getElem? (i := 458) (by decide +kernel)), by decide +kernel⟩
theorem iw_459 : (Jvm.Cond.code ({ cls := "ConsolidationDesk$Report", name := "openPartner", desc := "(I)I" } : Jvm.MethodName) prog_3_method_15_code (2 : Nat) (Option.some Jvm.ClassFile.FieldType.int)) ∈ kxW := List.mem_filter.mpr ⟨List.mem_append_right _ (List.mem_of_getElem? (i := 459) (by decide +kernel)), by decide +kernel⟩
theorem iw_460 : (Jvm.Cond.methodLink "ConsolidationDesk" (149 : Nat) ({ cls := "ConsolidationDesk$Report", name := "openAccount", desc := "(I)I" } : Jvm.MethodName)) ∈ kxW := List.mem_filter.mpr ⟨List.mem_append_right _ (List.mem_of_getElem? (i := 460) (by decide +kernel)), by decide +kernel⟩
theorem iw_461 : (Jvm.Cond.instanceMethod ({ cls := "ConsolidationDesk$Report", name := "openAccount", desc := "(I)I" } : Jvm.MethodName)) ∈ kxW := List.mem_filter.mpr ⟨List.mem_append_right _ (List.mem_of_getElem? (i := 461) (by decide +kernel)), by decide +kernel⟩
theorem iw_462 : (Jvm.Cond.selects "ConsolidationDesk$Report" ({ cls := "ConsolidationDesk$Report", name := "openAccount", desc := "(I)I" } : Jvm.MethodName) ({ cls := "ConsolidationDesk$Report", name := "openAccount", desc := "(I)I" } : Jvm.MethodName)) ∈ kxW := List.mem_filter.mpr ⟨List.mem_append_right _ (List.mem_of_getElem? (i := 462) (by decide +kernel)), by decide +kernel⟩
theorem iw_463 : (Jvm.Cond.code ({ cls := "ConsolidationDesk$Report", name := "openAccount", desc := "(I)I" } : Jvm.MethodName) prog_3_method_16_code (2 : Nat) (Option.some Jvm.ClassFile.FieldType.int)) ∈ kxW := List.mem_filter.mpr ⟨List.mem_append_right _ (List.mem_of_getElem? (i := 463) (by decide +kernel)), by decide +kernel⟩
theorem iw_464 : (Jvm.Cond.methodLink "ConsolidationDesk" (152 : Nat) ({ cls := "ConsolidationDesk$Report", name := "openAmount", desc := "(I)J" } : Jvm.MethodName)) ∈ kxW := List.mem_filter.mpr ⟨List.mem_append_right _ (List.mem_of_getElem? (i := 464) (by decide +kernel)), by decide +kernel⟩
theorem iw_465 : (Jvm.Cond.instanceMethod ({ cls := "ConsolidationDesk$Report", name := "openAmount", desc := "(I)J" } : Jvm.MethodName)) ∈ kxW := List.mem_filter.mpr ⟨List.mem_append_right _ (List.mem_of_getElem? (i := 465) (by decide +kernel)), by decide +kernel⟩
theorem iw_466 : (Jvm.Cond.selects "ConsolidationDesk$Report" ({ cls := "ConsolidationDesk$Report", name := "openAmount", desc := "(I)J" } : Jvm.MethodName) ({ cls := "ConsolidationDesk$Report", name := "openAmount", desc := "(I)J" } : Jvm.MethodName)) ∈ kxW := List.mem_filter.mpr ⟨List.mem_append_right _ (List.mem_of_getElem? (i := 466) (by decide +kernel)), by decide +kernel⟩
theorem iw_467 : (Jvm.Cond.code ({ cls := "ConsolidationDesk$Report", name := "openAmount", desc := "(I)J" } : Jvm.MethodName) prog_3_method_17_code (2 : Nat) (Option.some Jvm.ClassFile.FieldType.long)) ∈ kxW := List.mem_filter.mpr ⟨List.mem_append_right _ (List.mem_of_getElem? (i := 467) (by decide +kernel)), by decide +kernel⟩
set_option maxHeartbeats 4000000 in
set_option maxRecDepth 100000 in
theorem k_D_isCompany (l : Launch) (dC : Nat → ClassId) (dI : Nat → Nat → Nat) (cI cL cZ : ClassId)  (h0 a_currencyOf a_sortOf a_closingRates a_averageRates a_sums a_historicAmounts a_holdings a_report : Nat) (v_companies : Int32) (v_accounts : Int32) (v_reserve : Int32) (sz : Nat) (p0 : Int32) {post : Int32 → Unit → Prop} (hw : wp_D_isCompany p0 v_companies post) : Met l y_D_isCompany ws_D_isCompany rm_D_isCompany (kx_Pc (dC, dI) classes (kx_T cI cL cZ) (WS_D_isCompany cI cL cZ h0 a_currencyOf a_sortOf a_closingRates a_averageRates a_sums a_historicAmounts a_holdings a_report v_companies v_accounts v_reserve) sz [.ref h0, .int p0]) (kx_QPi post) 0 0 (fun _ => False) := by
  refine Met.ofW (cc := prog_1_method_20_code) (maxL := 2) (ret := (some .boolean)) (by decide) rfl ?_
  intro p e s m args below meth c s₁ B hml hv
  obtain ⟨rfl, hsz, hP, hK, hD, hN⟩ := hv
  have hx := B.exec
  have hb := B.bytes
  have hr := B.returns
  have hts := atoms_spec (ws := ws_D_isCompany) B.pre
  have hown : s.vm.findClass R_D = some m.cls := findClass_of_methodNamed B.named
  have hlocks := B.notSynchronized
  subst hsz
  have hP : va_P (dC, dI) classes (WS_D_isCompany cI cL cZ h0 a_currencyOf a_sortOf a_closingRates a_averageRates a_sums a_historicAmounts a_holdings a_report v_companies v_accounts v_reserve) s.heap := hP
  have hl := lv_entry ([.ref h0, .int p0]) (n := 2) (Nat.le_of_ble_eq_true rfl)
  rw [lg_entry_eq]
  generalize (lg_sl ([.ref h0, .int p0]) ++ List.replicate (2 - (lg_sl ([.ref h0, .int p0])).length) Slot.unset).toArray = ls at hl ⊢
  have hl : lv_has ls 2 [(0, .ref h0), (1, .int p0)] := hl
  unfold wp_D_isCompany at hw
  refine lv_iload_n hx hb d_D_isCompany_0 rfl (lv_at hl 1 rfl) ?_
  refine lv_if_lt (tgt := 16) hx hb d_D_isCompany_1 rfl (fun hc => ?_) (fun hc => ?_)
  ·
    have hw := hw.1 hc
    refine lv_iconst (v := 0) hx hb d_D_isCompany_16 (by decide) ?_
    exact W.zret (v := 0) hx hb hr (by decide) (fun t ht hW => ⟨0, rfl, hw, ht⟩) (fun _ h => by cases h) d_D_isCompany_17
  ·
    have hw := hw.2 hc
    refine lv_iload_n hx hb d_D_isCompany_4 rfl (lv_at hl 1 rfl) ?_
    refine lv_aload_n hx hb d_D_isCompany_5 rfl (lv_at hl 0 rfl) ?_
    refine va_get (D := (dC, dI)) (ci := 2) (v := .int v_companies) (C := R_D) (T := F_D) (N := 11) hx hb hts (kx_in in_D) hown hK hP 0 rfl rfl 0 (by decide) (hts _ (kx_w iw_84)) (fun _ h9 => h9) rfl d_D_isCompany_6 ?_
    refine lv_icmp_ge (tgt := 16) hx hb d_D_isCompany_9 rfl (fun hc => ?_) (fun hc => ?_)
    ·
      have hw := hw.1 hc
      refine lv_iconst (v := 0) hx hb d_D_isCompany_16 (by decide) ?_
      exact W.zret (v := 0) hx hb hr (by decide) (fun t ht hW => ⟨0, rfl, hw, ht⟩) (fun _ h => by cases h) d_D_isCompany_17
    ·
      have hw := hw.2 hc
      refine lv_iconst (v := 1) hx hb d_D_isCompany_12 (by decide) ?_
      refine lv_goto (tgt := 17) hx hb d_D_isCompany_13 rfl ?_
      exact W.zret (v := 1) hx hb hr (by decide) (fun t ht hW => ⟨1, rfl, hw, ht⟩) (fun _ h => by cases h) d_D_isCompany_17
set_option maxHeartbeats 4000000 in
set_option maxRecDepth 100000 in
theorem k_D_isAccount (l : Launch) (dC : Nat → ClassId) (dI : Nat → Nat → Nat) (cI cL cZ : ClassId)  (h0 a_currencyOf a_sortOf a_closingRates a_averageRates a_sums a_historicAmounts a_holdings a_report : Nat) (v_companies : Int32) (v_accounts : Int32) (v_reserve : Int32) (sz : Nat) (p0 : Int32) {post : Int32 → Unit → Prop} (hw : wp_D_isAccount p0 v_accounts post) : Met l y_D_isAccount ws_D_isAccount rm_D_isAccount (kx_Pc (dC, dI) classes (kx_T cI cL cZ) (WS_D_isAccount cI cL cZ h0 a_currencyOf a_sortOf a_closingRates a_averageRates a_sums a_historicAmounts a_holdings a_report v_companies v_accounts v_reserve) sz [.ref h0, .int p0]) (kx_QPi post) 0 0 (fun _ => False) := by
  refine Met.ofW (cc := prog_1_method_21_code) (maxL := 2) (ret := (some .boolean)) (by decide) rfl ?_
  intro p e s m args below meth c s₁ B hml hv
  obtain ⟨rfl, hsz, hP, hK, hD, hN⟩ := hv
  have hx := B.exec
  have hb := B.bytes
  have hr := B.returns
  have hts := atoms_spec (ws := ws_D_isAccount) B.pre
  have hown : s.vm.findClass R_D = some m.cls := findClass_of_methodNamed B.named
  have hlocks := B.notSynchronized
  subst hsz
  have hP : va_P (dC, dI) classes (WS_D_isAccount cI cL cZ h0 a_currencyOf a_sortOf a_closingRates a_averageRates a_sums a_historicAmounts a_holdings a_report v_companies v_accounts v_reserve) s.heap := hP
  have hl := lv_entry ([.ref h0, .int p0]) (n := 2) (Nat.le_of_ble_eq_true rfl)
  rw [lg_entry_eq]
  generalize (lg_sl ([.ref h0, .int p0]) ++ List.replicate (2 - (lg_sl ([.ref h0, .int p0])).length) Slot.unset).toArray = ls at hl ⊢
  have hl : lv_has ls 2 [(0, .ref h0), (1, .int p0)] := hl
  unfold wp_D_isAccount at hw
  refine lv_iload_n hx hb d_D_isAccount_0 rfl (lv_at hl 1 rfl) ?_
  refine lv_if_lt (tgt := 16) hx hb d_D_isAccount_1 rfl (fun hc => ?_) (fun hc => ?_)
  ·
    have hw := hw.1 hc
    refine lv_iconst (v := 0) hx hb d_D_isAccount_16 (by decide) ?_
    exact W.zret (v := 0) hx hb hr (by decide) (fun t ht hW => ⟨0, rfl, hw, ht⟩) (fun _ h => by cases h) d_D_isAccount_17
  ·
    have hw := hw.2 hc
    refine lv_iload_n hx hb d_D_isAccount_4 rfl (lv_at hl 1 rfl) ?_
    refine lv_aload_n hx hb d_D_isAccount_5 rfl (lv_at hl 0 rfl) ?_
    refine va_get (D := (dC, dI)) (ci := 2) (v := .int v_accounts) (C := R_D) (T := F_D) (N := 11) hx hb hts (kx_in in_D) hown hK hP 0 rfl rfl 2 (by decide) (hts _ (kx_w iw_86)) (fun _ h9 => h9) rfl d_D_isAccount_6 ?_
    refine lv_icmp_ge (tgt := 16) hx hb d_D_isAccount_9 rfl (fun hc => ?_) (fun hc => ?_)
    ·
      have hw := hw.1 hc
      refine lv_iconst (v := 0) hx hb d_D_isAccount_16 (by decide) ?_
      exact W.zret (v := 0) hx hb hr (by decide) (fun t ht hW => ⟨0, rfl, hw, ht⟩) (fun _ h => by cases h) d_D_isAccount_17
    ·
      have hw := hw.2 hc
      refine lv_iconst (v := 1) hx hb d_D_isAccount_12 (by decide) ?_
      refine lv_goto (tgt := 17) hx hb d_D_isAccount_13 rfl ?_
      exact W.zret (v := 1) hx hb hr (by decide) (fun t ht hW => ⟨1, rfl, hw, ht⟩) (fun _ h => by cases h) d_D_isAccount_17
set_option maxHeartbeats 4000000 in
set_option maxRecDepth 100000 in
theorem k_D_isPartnerOf (l : Launch) (dC : Nat → ClassId) (dI : Nat → Nat → Nat) (cI cL cZ : ClassId)  (h0 a_currencyOf a_sortOf a_closingRates a_averageRates a_sums a_historicAmounts a_holdings a_report : Nat) (v_companies : Int32) (v_accounts : Int32) (v_reserve : Int32) (sz : Nat) (p0 : Int32) (p1 : Int32) {post : Int32 → Unit → Prop} (hw : wp_D_isPartnerOf p0 p1 v_companies post) : Met l y_D_isPartnerOf ws_D_isPartnerOf rm_D_isPartnerOf (kx_Pc (dC, dI) classes (kx_T cI cL cZ) (WS_D_isPartnerOf cI cL cZ h0 a_currencyOf a_sortOf a_closingRates a_averageRates a_sums a_historicAmounts a_holdings a_report v_companies v_accounts v_reserve) sz [.ref h0, .int p0, .int p1]) (kx_QPi post) 0 0 (fun _ => False) := by
  refine Met.ofW (cc := prog_1_method_22_code) (maxL := 3) (ret := (some .boolean)) (by decide) rfl ?_
  intro p e s m args below meth c s₁ B hml hv
  obtain ⟨rfl, hsz, hP, hK, hD, hN⟩ := hv
  have hx := B.exec
  have hb := B.bytes
  have hr := B.returns
  have hts := atoms_spec (ws := ws_D_isPartnerOf) B.pre
  have hown : s.vm.findClass R_D = some m.cls := findClass_of_methodNamed B.named
  have hlocks := B.notSynchronized
  subst hsz
  have hP : va_P (dC, dI) classes (WS_D_isPartnerOf cI cL cZ h0 a_currencyOf a_sortOf a_closingRates a_averageRates a_sums a_historicAmounts a_holdings a_report v_companies v_accounts v_reserve) s.heap := hP
  have hl := lv_entry ([.ref h0, .int p0, .int p1]) (n := 3) (Nat.le_of_ble_eq_true rfl)
  rw [lg_entry_eq]
  generalize (lg_sl ([.ref h0, .int p0, .int p1]) ++ List.replicate (3 - (lg_sl ([.ref h0, .int p0, .int p1])).length) Slot.unset).toArray = ls at hl ⊢
  have hl : lv_has ls 3 [(0, .ref h0), (1, .int p0), (2, .int p1)] := hl
  unfold wp_D_isPartnerOf at hw
  refine lv_iload_n hx hb d_D_isPartnerOf_0 rfl (lv_at hl 2 rfl) ?_
  refine lv_iconst (v := (-1)) hx hb d_D_isPartnerOf_1 (by decide) ?_
  refine lv_icmp_eq (tgt := 18) hx hb d_D_isPartnerOf_2 rfl (fun hc => ?_) (fun hc => ?_)
  ·
    have hw := hw.1 hc
    refine lv_iconst (v := 1) hx hb d_D_isPartnerOf_18 (by decide) ?_
    refine lv_goto (tgt := 23) hx hb d_D_isPartnerOf_19 rfl ?_
    exact W.zret (v := 1) hx hb hr (by decide) (fun t ht hW => ⟨1, rfl, hw, ht⟩) (fun _ h => by cases h) d_D_isPartnerOf_23
  ·
    have hw := hw.2 hc
    refine lv_aload_n hx hb d_D_isPartnerOf_5 rfl (lv_at hl 0 rfl) ?_
    refine lv_iload_n hx hb d_D_isPartnerOf_6 rfl (lv_at hl 2 rfl) ?_
    refine kx_callpi (va_runV (As := [.int p1]) (rest := []) ⟨hx, hb, hml, hown, hts⟩ (k_D_isCompany l dC dI cI cL cZ h0 a_currencyOf a_sortOf a_closingRates a_averageRates a_sums a_historicAmounts a_holdings a_report v_companies v_accounts v_reserve s.heap.size p1 hw) ⟨(callB_of 1 hts (kx_good iw_136) rfl rfl rfl (hts _ (kx_w iw_1)) (hts _ (kx_w iw_133)) (by decide +kernel) ⟨Nat.le_of_ble_eq_true rfl, Nat.le_of_ble_eq_true rfl⟩), (hts _ (kx_w iw_135)), (hts _ (kx_w sl_D_isCompany))⟩ (kx_preV hN hK hP hD [0] (by decide) rfl 0 rfl rfl) rfl rfl hl.1 rfl (lv_room (Nat.le_of_ble_eq_true rfl)) d_D_isPartnerOf_7 ⟨Nat.le_of_ble_eq_true rfl, Nat.le_of_ble_eq_true rfl⟩) (fun r7 hw => ?_)
    refine lv_if_eq (tgt := 22) hx hb d_D_isPartnerOf_10 rfl (fun hc => ?_) (fun hc => ?_)
    ·
      have hw := hw.1 hc
      refine lv_iconst (v := 0) hx hb d_D_isPartnerOf_22 (by decide) ?_
      exact W.zret (v := 0) hx hb hr (by decide) (fun t ht hW => ⟨0, rfl, hw, ht⟩) (fun _ h => by cases h) d_D_isPartnerOf_23
    ·
      have hw := hw.2 hc
      refine lv_iload_n hx hb d_D_isPartnerOf_13 rfl (lv_at hl 2 rfl) ?_
      refine lv_iload_n hx hb d_D_isPartnerOf_14 rfl (lv_at hl 1 rfl) ?_
      refine lv_icmp_eq (tgt := 22) hx hb d_D_isPartnerOf_15 rfl (fun hc => ?_) (fun hc => ?_)
      ·
        have hw := hw.1 hc
        refine lv_iconst (v := 0) hx hb d_D_isPartnerOf_22 (by decide) ?_
        exact W.zret (v := 0) hx hb hr (by decide) (fun t ht hW => ⟨0, rfl, hw, ht⟩) (fun _ h => by cases h) d_D_isPartnerOf_23
      ·
        have hw := hw.2 hc
        refine lv_iconst (v := 1) hx hb d_D_isPartnerOf_18 (by decide) ?_
        refine lv_goto (tgt := 23) hx hb d_D_isPartnerOf_19 rfl ?_
        exact W.zret (v := 1) hx hb hr (by decide) (fun t ht hW => ⟨1, rfl, hw, ht⟩) (fun _ h => by cases h) d_D_isPartnerOf_23
set_option maxHeartbeats 4000000 in
set_option maxRecDepth 100000 in
theorem k_D_isPlace (l : Launch) (dC : Nat → ClassId) (dI : Nat → Nat → Nat) (cI cL cZ : ClassId)  (h0 a_currencyOf a_sortOf a_closingRates a_averageRates a_sums a_historicAmounts a_holdings a_report : Nat) (v_companies : Int32) (v_accounts : Int32) (v_reserve : Int32) (sz : Nat) (p0 : Int32) (p1 : Int32) (p2 : Int32) {post : Int32 → Unit → Prop} (hw : wp_D_isPlace p0 p1 p2 v_companies v_accounts post) : Met l y_D_isPlace ws_D_isPlace rm_D_isPlace (kx_Pc (dC, dI) classes (kx_T cI cL cZ) (WS_D_isPlace cI cL cZ h0 a_currencyOf a_sortOf a_closingRates a_averageRates a_sums a_historicAmounts a_holdings a_report v_companies v_accounts v_reserve) sz [.ref h0, .int p0, .int p1, .int p2]) (kx_QPi post) 0 0 (fun _ => False) := by
  refine Met.ofW (cc := prog_1_method_23_code) (maxL := 4) (ret := (some .boolean)) (by decide) rfl ?_
  intro p e s m args below meth c s₁ B hml hv
  obtain ⟨rfl, hsz, hP, hK, hD, hN⟩ := hv
  have hx := B.exec
  have hb := B.bytes
  have hr := B.returns
  have hts := atoms_spec (ws := ws_D_isPlace) B.pre
  have hown : s.vm.findClass R_D = some m.cls := findClass_of_methodNamed B.named
  have hlocks := B.notSynchronized
  subst hsz
  have hP : va_P (dC, dI) classes (WS_D_isPlace cI cL cZ h0 a_currencyOf a_sortOf a_closingRates a_averageRates a_sums a_historicAmounts a_holdings a_report v_companies v_accounts v_reserve) s.heap := hP
  have hl := lv_entry ([.ref h0, .int p0, .int p1, .int p2]) (n := 4) (Nat.le_of_ble_eq_true rfl)
  rw [lg_entry_eq]
  generalize (lg_sl ([.ref h0, .int p0, .int p1, .int p2]) ++ List.replicate (4 - (lg_sl ([.ref h0, .int p0, .int p1, .int p2])).length) Slot.unset).toArray = ls at hl ⊢
  have hl : lv_has ls 4 [(0, .ref h0), (1, .int p0), (2, .int p1), (3, .int p2)] := hl
  unfold wp_D_isPlace at hw
  refine lv_aload_n hx hb d_D_isPlace_0 rfl (lv_at hl 0 rfl) ?_
  refine lv_iload_n hx hb d_D_isPlace_1 rfl (lv_at hl 1 rfl) ?_
  refine kx_callpi (va_runV (As := [.int p0]) (rest := []) ⟨hx, hb, hml, hown, hts⟩ (k_D_isCompany l dC dI cI cL cZ h0 a_currencyOf a_sortOf a_closingRates a_averageRates a_sums a_historicAmounts a_holdings a_report v_companies v_accounts v_reserve s.heap.size p0 hw) ⟨(callB_of 1 hts (kx_good iw_136) rfl rfl rfl (hts _ (kx_w iw_1)) (hts _ (kx_w iw_133)) (by decide +kernel) ⟨Nat.le_of_ble_eq_true rfl, Nat.le_of_ble_eq_true rfl⟩), (hts _ (kx_w iw_135)), (hts _ (kx_w sl_D_isCompany))⟩ (kx_preV hN hK hP hD [0] (by decide) rfl 0 rfl rfl) rfl rfl hl.1 rfl (lv_room (Nat.le_of_ble_eq_true rfl)) d_D_isPlace_2 ⟨Nat.le_of_ble_eq_true rfl, Nat.le_of_ble_eq_true rfl⟩) (fun r2 hw => ?_)
  refine lv_if_eq (tgt := 29) hx hb d_D_isPlace_5 rfl (fun hc => ?_) (fun hc => ?_)
  ·
    have hw := hw.1 hc
    refine lv_iconst (v := 0) hx hb d_D_isPlace_29 (by decide) ?_
    exact W.zret (v := 0) hx hb hr (by decide) (fun t ht hW => ⟨0, rfl, hw, ht⟩) (fun _ h => by cases h) d_D_isPlace_30
  ·
    have hw := hw.2 hc
    refine lv_aload_n hx hb d_D_isPlace_8 rfl (lv_at hl 0 rfl) ?_
    refine lv_iload_n hx hb d_D_isPlace_9 rfl (lv_at hl 2 rfl) ?_
    refine kx_callpi (va_runV (As := [.int p1]) (rest := []) ⟨hx, hb, hml, hown, hts⟩ (k_D_isAccount l dC dI cI cL cZ h0 a_currencyOf a_sortOf a_closingRates a_averageRates a_sums a_historicAmounts a_holdings a_report v_companies v_accounts v_reserve s.heap.size p1 hw) ⟨(callB_of 1 hts (kx_good iw_201) rfl rfl rfl (hts _ (kx_w iw_1)) (hts _ (kx_w iw_198)) (by decide +kernel) ⟨Nat.le_of_ble_eq_true rfl, Nat.le_of_ble_eq_true rfl⟩), (hts _ (kx_w iw_200)), (hts _ (kx_w sl_D_isAccount))⟩ (kx_preV hN hK hP hD [0] (by decide) rfl 0 rfl rfl) rfl rfl hl.1 rfl (lv_room (Nat.le_of_ble_eq_true rfl)) d_D_isPlace_10 ⟨Nat.le_of_ble_eq_true rfl, Nat.le_of_ble_eq_true rfl⟩) (fun r10 hw => ?_)
    refine lv_if_eq (tgt := 29) hx hb d_D_isPlace_13 rfl (fun hc => ?_) (fun hc => ?_)
    ·
      have hw := hw.1 hc
      refine lv_iconst (v := 0) hx hb d_D_isPlace_29 (by decide) ?_
      exact W.zret (v := 0) hx hb hr (by decide) (fun t ht hW => ⟨0, rfl, hw, ht⟩) (fun _ h => by cases h) d_D_isPlace_30
    ·
      have hw := hw.2 hc
      refine lv_aload_n hx hb d_D_isPlace_16 rfl (lv_at hl 0 rfl) ?_
      refine lv_iload_n hx hb d_D_isPlace_17 rfl (lv_at hl 1 rfl) ?_
      refine lv_iload_n hx hb d_D_isPlace_18 rfl (lv_at hl 3 rfl) ?_
      refine kx_callpi (va_runV (As := [.int p0, .int p2]) (rest := []) ⟨hx, hb, hml, hown, hts⟩ (k_D_isPartnerOf l dC dI cI cL cZ h0 a_currencyOf a_sortOf a_closingRates a_averageRates a_sums a_historicAmounts a_holdings a_report v_companies v_accounts v_reserve s.heap.size p0 p2 hw) ⟨(callB_of 2 hts (kx_good iw_205) rfl rfl rfl (hts _ (kx_w iw_1)) (hts _ (kx_w iw_202)) (by decide +kernel) ⟨Nat.le_of_ble_eq_true rfl, Nat.le_of_ble_eq_true rfl⟩), (hts _ (kx_w iw_204)), (hts _ (kx_w sl_D_isPartnerOf))⟩ (kx_preV hN hK hP hD [0] (by decide) rfl 0 rfl rfl) rfl rfl hl.1 rfl (lv_room (Nat.le_of_ble_eq_true rfl)) d_D_isPlace_19 ⟨Nat.le_of_ble_eq_true rfl, Nat.le_of_ble_eq_true rfl⟩) (fun r19 hw => ?_)
      refine lv_if_eq (tgt := 29) hx hb d_D_isPlace_22 rfl (fun hc => ?_) (fun hc => ?_)
      ·
        have hw := hw.1 hc
        refine lv_iconst (v := 0) hx hb d_D_isPlace_29 (by decide) ?_
        exact W.zret (v := 0) hx hb hr (by decide) (fun t ht hW => ⟨0, rfl, hw, ht⟩) (fun _ h => by cases h) d_D_isPlace_30
      ·
        have hw := hw.2 hc
        refine lv_iconst (v := 1) hx hb d_D_isPlace_25 (by decide) ?_
        refine lv_goto (tgt := 30) hx hb d_D_isPlace_26 rfl ?_
        exact W.zret (v := 1) hx hb hr (by decide) (fun t ht hW => ⟨1, rfl, hw, ht⟩) (fun _ h => by cases h) d_D_isPlace_30
set_option maxHeartbeats 4000000 in
set_option maxRecDepth 100000 in
theorem k_D_place (l : Launch) (dC : Nat → ClassId) (dI : Nat → Nat → Nat) (cI cL cZ : ClassId)    (sz : Nat) (p0 : Int32) (p1 : Int32) (p2 : Int32) {post : Int32 → Unit → Prop} (hw : wp_D_place p0 p1 p2 post) : Met l y_D_place ws_D_place rm_D_place (kx_Pc (dC, dI) classes (kx_T cI cL cZ) (WS_D_place cI cL cZ ) sz [.int p0, .int p1, .int p2]) (kx_QPi post) 0 0 (fun _ => False) := by
  refine Met.ofW (cc := prog_1_method_25_code) (maxL := 3) (ret := (some .int)) (by decide) rfl ?_
  intro p e s m args below meth c s₁ B hml hv
  obtain ⟨rfl, hsz, hP, hK, hD, hN⟩ := hv
  have hx := B.exec
  have hb := B.bytes
  have hr := B.returns
  have hts := atoms_spec (ws := ws_D_place) B.pre
  have hown : s.vm.findClass R_D = some m.cls := findClass_of_methodNamed B.named
  have hlocks := B.notSynchronized
  subst hsz
  have hP : va_P (dC, dI) classes (WS_D_place cI cL cZ ) s.heap := hP
  have hl := lv_entry ([.int p0, .int p1, .int p2]) (n := 3) (Nat.le_of_ble_eq_true rfl)
  rw [lg_entry_eq]
  generalize (lg_sl ([.int p0, .int p1, .int p2]) ++ List.replicate (3 - (lg_sl ([.int p0, .int p1, .int p2])).length) Slot.unset).toArray = ls at hl ⊢
  have hl : lv_has ls 3 [(0, .int p0), (1, .int p1), (2, .int p2)] := hl
  unfold wp_D_place at hw
  refine lv_iload_n hx hb d_D_place_0 rfl (lv_at hl 0 rfl) ?_
  refine lv_bipush (v := 13) hx hb d_D_place_1 (by decide) ?_
  refine lv_imul hx hb d_D_place_3 ?_
  refine lv_iload_n hx hb d_D_place_4 rfl (lv_at hl 1 rfl) ?_
  refine lv_iadd hx hb d_D_place_5 ?_
  refine lv_iconst (v := 1) hx hb d_D_place_6 (by decide) ?_
  refine lv_iadd hx hb d_D_place_7 ?_
  refine lv_bipush (v := 12) hx hb d_D_place_8 (by decide) ?_
  refine lv_imul hx hb d_D_place_10 ?_
  refine lv_iload_n hx hb d_D_place_11 rfl (lv_at hl 2 rfl) ?_
  refine lv_iadd hx hb d_D_place_12 ?_
  exact W.iret (v := (((((p0 * 13) + p1) + 1) * 12) + p2)) hx hb hr (fun t ht hW => ⟨(((((p0 * 13) + p1) + 1) * 12) + p2), rfl, hw, ht⟩) (fun _ h => by cases h) d_D_place_13
set_option maxHeartbeats 4000000 in
set_option maxRecDepth 100000 in
theorem k_R_isMade (l : Launch) (dC : Nat → ClassId) (dI : Nat → Nat → Nat) (cI cL cZ : ClassId)  (h0 a_amounts a_stepAmounts a_groupAmounts a_outsidersCredits a_openPlaces : Nat) (v_made : Int32) (v_companies : Int32) (v_accounts : Int32) (v_open : Int32) (sz : Nat)  {post : Int32 → Unit → Prop} (hw : wp_R_isMade v_made post) : Met l y_R_isMade ws_R_isMade rm_R_isMade (kx_Pc (dC, dI) classes (kx_T cI cL cZ) (WS_R_isMade cI cL cZ h0 a_amounts a_stepAmounts a_groupAmounts a_outsidersCredits a_openPlaces v_made v_companies v_accounts v_open) sz [.ref h0]) (kx_QPi post) 0 0 (fun _ => False) := by
  refine Met.ofW (cc := prog_3_method_9_code) (maxL := 1) (ret := (some .boolean)) (by decide) rfl ?_
  intro p e s m args below meth c s₁ B hml hv
  obtain ⟨rfl, hsz, hP, hK, hD, hN⟩ := hv
  have hx := B.exec
  have hb := B.bytes
  have hr := B.returns
  have hts := atoms_spec (ws := ws_R_isMade) B.pre
  have hown : s.vm.findClass R_R = some m.cls := findClass_of_methodNamed B.named
  have hlocks := B.notSynchronized
  subst hsz
  have hP : va_P (dC, dI) classes (WS_R_isMade cI cL cZ h0 a_amounts a_stepAmounts a_groupAmounts a_outsidersCredits a_openPlaces v_made v_companies v_accounts v_open) s.heap := hP
  have hl := lv_entry ([.ref h0]) (n := 1) (Nat.le_of_ble_eq_true rfl)
  rw [lg_entry_eq]
  generalize (lg_sl ([.ref h0]) ++ List.replicate (1 - (lg_sl ([.ref h0])).length) Slot.unset).toArray = ls at hl ⊢
  have hl : lv_has ls 1 [(0, .ref h0)] := hl
  unfold wp_R_isMade at hw
  refine lv_aload_n hx hb d_R_isMade_0 rfl (lv_at hl 0 rfl) ?_
  refine va_get (D := (dC, dI)) (ci := 1) (v := .int v_made) (C := R_R) (T := F_R) (N := 9) hx hb hts (kx_in in_R) hown hK hP 0 rfl rfl 0 (by decide) (hts _ (kx_w iw_56)) (fun _ h9 => h9) rfl d_R_isMade_1 ?_
  obtain ⟨hnz, hw⟩ := hw
  exact W.zret (v := v_made) hx hb hr hnz (fun t ht hW => ⟨v_made, rfl, hw, ht⟩) (fun _ h => by cases h) d_R_isMade_4
set_option maxHeartbeats 4000000 in
set_option maxRecDepth 100000 in
theorem k_R_groupAmount (l : Launch) (dC : Nat → ClassId) (dI : Nat → Nat → Nat) (cI cL cZ : ClassId)  (h0 a_amounts a_stepAmounts a_groupAmounts a_outsidersCredits a_openPlaces : Nat) (v_made : Int32) (v_companies : Int32) (v_accounts : Int32) (v_open : Int32) (v_groupAmounts : (Nat → Int64)) (sz : Nat) (p0 : Int32) {post : Int64 → Unit → Prop} (hw : wp_R_groupAmount p0 v_groupAmounts post) : Met l y_R_groupAmount ws_R_groupAmount rm_R_groupAmount (kx_Pc (dC, dI) classes (kx_T cI cL cZ) (WS_R_groupAmount cI cL cZ h0 a_amounts a_stepAmounts a_groupAmounts a_outsidersCredits a_openPlaces v_made v_companies v_accounts v_open v_groupAmounts) sz [.ref h0, .int p0]) (kx_QPl post) 0 0 (fun _ => False) := by
  refine Met.ofW (cc := prog_3_method_10_code) (maxL := 2) (ret := (some .long)) (by decide) rfl ?_
  intro p e s m args below meth c s₁ B hml hv
  obtain ⟨rfl, hsz, hP, hK, hD, hN⟩ := hv
  have hx := B.exec
  have hb := B.bytes
  have hr := B.returns
  have hts := atoms_spec (ws := ws_R_groupAmount) B.pre
  have hown : s.vm.findClass R_R = some m.cls := findClass_of_methodNamed B.named
  have hlocks := B.notSynchronized
  subst hsz
  have hP : va_P (dC, dI) classes (WS_R_groupAmount cI cL cZ h0 a_amounts a_stepAmounts a_groupAmounts a_outsidersCredits a_openPlaces v_made v_companies v_accounts v_open v_groupAmounts) s.heap := hP
  have hl := lv_entry ([.ref h0, .int p0]) (n := 2) (Nat.le_of_ble_eq_true rfl)
  rw [lg_entry_eq]
  generalize (lg_sl ([.ref h0, .int p0]) ++ List.replicate (2 - (lg_sl ([.ref h0, .int p0])).length) Slot.unset).toArray = ls at hl ⊢
  have hl : lv_has ls 2 [(0, .ref h0), (1, .int p0)] := hl
  unfold wp_R_groupAmount at hw
  refine lv_aload_n hx hb d_R_groupAmount_0 rfl (lv_at hl 0 rfl) ?_
  refine va_get (D := (dC, dI)) (ci := 1) (v := .ref a_groupAmounts) (C := R_R) (T := F_R) (N := 9) hx hb hts (kx_in in_R) hown hK hP 0 rfl rfl 5 (by decide) (hts _ (kx_w iw_61)) (fun _ h9 => h9) rfl d_R_groupAmount_1 ?_
  refine lv_iload_n hx hb d_R_groupAmount_4 rfl (lv_at hl 1 rfl) ?_
  obtain ⟨hi, hw⟩ := hw
  refine va_lald hx hb hK hP 1 1 rfl rfl hi d_R_groupAmount_5 ?_
  exact W.lret (v := (v_groupAmounts p0.toNatClampNeg)) hx hb hr (fun t ht hW => ⟨(v_groupAmounts p0.toNatClampNeg), rfl, hw, ht⟩) (fun _ h => by cases h) d_R_groupAmount_6
set_option maxHeartbeats 4000000 in
set_option maxRecDepth 100000 in
theorem k_R_stepPlace (l : Launch) (dC : Nat → ClassId) (dI : Nat → Nat → Nat) (cI cL cZ : ClassId)    (sz : Nat) (p0 : Int32) (p1 : Int32) (p2 : Int32) {post : Int32 → Unit → Prop} (hw : wp_R_stepPlace p0 p1 p2 post) : Met l y_R_stepPlace ws_R_stepPlace rm_R_stepPlace (kx_Pc (dC, dI) classes (kx_T cI cL cZ) (WS_R_stepPlace cI cL cZ ) sz [.int p0, .int p1, .int p2]) (kx_QPi post) 0 0 (fun _ => False) := by
  refine Met.ofW (cc := prog_3_method_18_code) (maxL := 3) (ret := (some .int)) (by decide) rfl ?_
  intro p e s m args below meth c s₁ B hml hv
  obtain ⟨rfl, hsz, hP, hK, hD, hN⟩ := hv
  have hx := B.exec
  have hb := B.bytes
  have hr := B.returns
  have hts := atoms_spec (ws := ws_R_stepPlace) B.pre
  have hown : s.vm.findClass R_R = some m.cls := findClass_of_methodNamed B.named
  have hlocks := B.notSynchronized
  subst hsz
  have hP : va_P (dC, dI) classes (WS_R_stepPlace cI cL cZ ) s.heap := hP
  have hl := lv_entry ([.int p0, .int p1, .int p2]) (n := 3) (Nat.le_of_ble_eq_true rfl)
  rw [lg_entry_eq]
  generalize (lg_sl ([.int p0, .int p1, .int p2]) ++ List.replicate (3 - (lg_sl ([.int p0, .int p1, .int p2])).length) Slot.unset).toArray = ls at hl ⊢
  have hl : lv_has ls 3 [(0, .int p0), (1, .int p1), (2, .int p2)] := hl
  unfold wp_R_stepPlace at hw
  refine lv_iload_n hx hb d_R_stepPlace_0 rfl (lv_at hl 0 rfl) ?_
  refine lv_bipush (v := 12) hx hb d_R_stepPlace_1 (by decide) ?_
  refine lv_imul hx hb d_R_stepPlace_3 ?_
  refine lv_iload_n hx hb d_R_stepPlace_4 rfl (lv_at hl 1 rfl) ?_
  refine lv_iadd hx hb d_R_stepPlace_5 ?_
  refine lv_bipush (v := 12) hx hb d_R_stepPlace_6 (by decide) ?_
  refine lv_imul hx hb d_R_stepPlace_8 ?_
  refine lv_iload_n hx hb d_R_stepPlace_9 rfl (lv_at hl 2 rfl) ?_
  refine lv_iadd hx hb d_R_stepPlace_10 ?_
  exact W.iret (v := ((((p0 * 12) + p1) * 12) + p2)) hx hb hr (fun t ht hW => ⟨((((p0 * 12) + p1) * 12) + p2), rfl, hw, ht⟩) (fun _ h => by cases h) d_R_stepPlace_11
set_option maxHeartbeats 4000000 in
set_option maxRecDepth 100000 in
theorem k_R_stepAmount (l : Launch) (dC : Nat → ClassId) (dI : Nat → Nat → Nat) (cI cL cZ : ClassId)  (h0 a_amounts a_stepAmounts a_groupAmounts a_outsidersCredits a_openPlaces : Nat) (v_made : Int32) (v_companies : Int32) (v_accounts : Int32) (v_open : Int32) (v_stepAmounts : (Nat → Int64)) (sz : Nat) (p0 : Int32) (p1 : Int32) (p2 : Int32) {post : Int64 → Unit → Prop} (hw : wp_R_stepAmount p0 p1 p2 v_stepAmounts post) : Met l y_R_stepAmount ws_R_stepAmount rm_R_stepAmount (kx_Pc (dC, dI) classes (kx_T cI cL cZ) (WS_R_stepAmount cI cL cZ h0 a_amounts a_stepAmounts a_groupAmounts a_outsidersCredits a_openPlaces v_made v_companies v_accounts v_open v_stepAmounts) sz [.ref h0, .int p0, .int p1, .int p2]) (kx_QPl post) 0 0 (fun _ => False) := by
  refine Met.ofW (cc := prog_3_method_11_code) (maxL := 4) (ret := (some .long)) (by decide) rfl ?_
  intro p e s m args below meth c s₁ B hml hv
  obtain ⟨rfl, hsz, hP, hK, hD, hN⟩ := hv
  have hx := B.exec
  have hb := B.bytes
  have hr := B.returns
  have hts := atoms_spec (ws := ws_R_stepAmount) B.pre
  have hown : s.vm.findClass R_R = some m.cls := findClass_of_methodNamed B.named
  have hlocks := B.notSynchronized
  subst hsz
  have hP : va_P (dC, dI) classes (WS_R_stepAmount cI cL cZ h0 a_amounts a_stepAmounts a_groupAmounts a_outsidersCredits a_openPlaces v_made v_companies v_accounts v_open v_stepAmounts) s.heap := hP
  have hl := lv_entry ([.ref h0, .int p0, .int p1, .int p2]) (n := 4) (Nat.le_of_ble_eq_true rfl)
  rw [lg_entry_eq]
  generalize (lg_sl ([.ref h0, .int p0, .int p1, .int p2]) ++ List.replicate (4 - (lg_sl ([.ref h0, .int p0, .int p1, .int p2])).length) Slot.unset).toArray = ls at hl ⊢
  have hl : lv_has ls 4 [(0, .ref h0), (1, .int p0), (2, .int p1), (3, .int p2)] := hl
  unfold wp_R_stepAmount at hw
  refine lv_aload_n hx hb d_R_stepAmount_0 rfl (lv_at hl 0 rfl) ?_
  refine va_get (D := (dC, dI)) (ci := 1) (v := .ref a_stepAmounts) (C := R_R) (T := F_R) (N := 9) hx hb hts (kx_in in_R) hown hK hP 0 rfl rfl 4 (by decide) (hts _ (kx_w iw_60)) (fun _ h9 => h9) rfl d_R_stepAmount_1 ?_
  refine lv_iload_n hx hb d_R_stepAmount_4 rfl (lv_at hl 1 rfl) ?_
  refine lv_iload_n hx hb d_R_stepAmount_5 rfl (lv_at hl 2 rfl) ?_
  refine lv_iload_n hx hb d_R_stepAmount_6 rfl (lv_at hl 3 rfl) ?_
  refine kx_callpi (va_runS (As := [.int p0, .int p1, .int p2]) (rest := [.ref a_stepAmounts]) ⟨hx, hb, hml, hown, hts⟩ (k_R_stepPlace l dC dI cI cL cZ  s.heap.size p0 p1 p2 hw) ⟨(callB_of 3 hts (kx_good iw_295) rfl rfl rfl (hts _ (kx_w iw_3)) (hts _ (kx_w iw_293)) (by decide +kernel) ⟨Nat.le_of_ble_eq_true rfl, Nat.le_of_ble_eq_true rfl⟩), (hts _ (kx_w iw_294))⟩ (kx_preS hN hK hP hD [] (by decide) rfl) rfl rfl hl.1 rfl (lv_room (Nat.le_of_ble_eq_true rfl)) d_R_stepAmount_7 ⟨Nat.le_of_ble_eq_true rfl, Nat.le_of_ble_eq_true rfl⟩) (fun r7 hw => ?_)
  obtain ⟨hi, hw⟩ := hw
  refine va_lald hx hb hK hP 1 1 rfl rfl hi d_R_stepAmount_10 ?_
  exact W.lret (v := (v_stepAmounts r7.toNatClampNeg)) hx hb hr (fun t ht hW => ⟨(v_stepAmounts r7.toNatClampNeg), rfl, hw, ht⟩) (fun _ h => by cases h) d_R_stepAmount_11
set_option maxHeartbeats 4000000 in
set_option maxRecDepth 100000 in
theorem k_R_outsidersCredit (l : Launch) (dC : Nat → ClassId) (dI : Nat → Nat → Nat) (cI cL cZ : ClassId)  (h0 a_amounts a_stepAmounts a_groupAmounts a_outsidersCredits a_openPlaces : Nat) (v_made : Int32) (v_companies : Int32) (v_accounts : Int32) (v_open : Int32) (v_outsidersCredits : (Nat → Int64)) (sz : Nat) (p0 : Int32) {post : Int64 → Unit → Prop} (hw : wp_R_outsidersCredit p0 v_outsidersCredits post) : Met l y_R_outsidersCredit ws_R_outsidersCredit rm_R_outsidersCredit (kx_Pc (dC, dI) classes (kx_T cI cL cZ) (WS_R_outsidersCredit cI cL cZ h0 a_amounts a_stepAmounts a_groupAmounts a_outsidersCredits a_openPlaces v_made v_companies v_accounts v_open v_outsidersCredits) sz [.ref h0, .int p0]) (kx_QPl post) 0 0 (fun _ => False) := by
  refine Met.ofW (cc := prog_3_method_12_code) (maxL := 2) (ret := (some .long)) (by decide) rfl ?_
  intro p e s m args below meth c s₁ B hml hv
  obtain ⟨rfl, hsz, hP, hK, hD, hN⟩ := hv
  have hx := B.exec
  have hb := B.bytes
  have hr := B.returns
  have hts := atoms_spec (ws := ws_R_outsidersCredit) B.pre
  have hown : s.vm.findClass R_R = some m.cls := findClass_of_methodNamed B.named
  have hlocks := B.notSynchronized
  subst hsz
  have hP : va_P (dC, dI) classes (WS_R_outsidersCredit cI cL cZ h0 a_amounts a_stepAmounts a_groupAmounts a_outsidersCredits a_openPlaces v_made v_companies v_accounts v_open v_outsidersCredits) s.heap := hP
  have hl := lv_entry ([.ref h0, .int p0]) (n := 2) (Nat.le_of_ble_eq_true rfl)
  rw [lg_entry_eq]
  generalize (lg_sl ([.ref h0, .int p0]) ++ List.replicate (2 - (lg_sl ([.ref h0, .int p0])).length) Slot.unset).toArray = ls at hl ⊢
  have hl : lv_has ls 2 [(0, .ref h0), (1, .int p0)] := hl
  unfold wp_R_outsidersCredit at hw
  refine lv_aload_n hx hb d_R_outsidersCredit_0 rfl (lv_at hl 0 rfl) ?_
  refine va_get (D := (dC, dI)) (ci := 1) (v := .ref a_outsidersCredits) (C := R_R) (T := F_R) (N := 9) hx hb hts (kx_in in_R) hown hK hP 0 rfl rfl 6 (by decide) (hts _ (kx_w iw_62)) (fun _ h9 => h9) rfl d_R_outsidersCredit_1 ?_
  refine lv_iload_n hx hb d_R_outsidersCredit_4 rfl (lv_at hl 1 rfl) ?_
  obtain ⟨hi, hw⟩ := hw
  refine va_lald hx hb hK hP 1 1 rfl rfl hi d_R_outsidersCredit_5 ?_
  exact W.lret (v := (v_outsidersCredits p0.toNatClampNeg)) hx hb hr (fun t ht hW => ⟨(v_outsidersCredits p0.toNatClampNeg), rfl, hw, ht⟩) (fun _ h => by cases h) d_R_outsidersCredit_6
set_option maxHeartbeats 4000000 in
set_option maxRecDepth 100000 in
theorem k_R_openCount (l : Launch) (dC : Nat → ClassId) (dI : Nat → Nat → Nat) (cI cL cZ : ClassId)  (h0 a_amounts a_stepAmounts a_groupAmounts a_outsidersCredits a_openPlaces : Nat) (v_made : Int32) (v_companies : Int32) (v_accounts : Int32) (v_open : Int32) (sz : Nat)  {post : Int32 → Unit → Prop} (hw : wp_R_openCount v_open post) : Met l y_R_openCount ws_R_openCount rm_R_openCount (kx_Pc (dC, dI) classes (kx_T cI cL cZ) (WS_R_openCount cI cL cZ h0 a_amounts a_stepAmounts a_groupAmounts a_outsidersCredits a_openPlaces v_made v_companies v_accounts v_open) sz [.ref h0]) (kx_QPi post) 0 0 (fun _ => False) := by
  refine Met.ofW (cc := prog_3_method_13_code) (maxL := 1) (ret := (some .int)) (by decide) rfl ?_
  intro p e s m args below meth c s₁ B hml hv
  obtain ⟨rfl, hsz, hP, hK, hD, hN⟩ := hv
  have hx := B.exec
  have hb := B.bytes
  have hr := B.returns
  have hts := atoms_spec (ws := ws_R_openCount) B.pre
  have hown : s.vm.findClass R_R = some m.cls := findClass_of_methodNamed B.named
  have hlocks := B.notSynchronized
  subst hsz
  have hP : va_P (dC, dI) classes (WS_R_openCount cI cL cZ h0 a_amounts a_stepAmounts a_groupAmounts a_outsidersCredits a_openPlaces v_made v_companies v_accounts v_open) s.heap := hP
  have hl := lv_entry ([.ref h0]) (n := 1) (Nat.le_of_ble_eq_true rfl)
  rw [lg_entry_eq]
  generalize (lg_sl ([.ref h0]) ++ List.replicate (1 - (lg_sl ([.ref h0])).length) Slot.unset).toArray = ls at hl ⊢
  have hl : lv_has ls 1 [(0, .ref h0)] := hl
  unfold wp_R_openCount at hw
  refine lv_aload_n hx hb d_R_openCount_0 rfl (lv_at hl 0 rfl) ?_
  refine va_get (D := (dC, dI)) (ci := 1) (v := .int v_open) (C := R_R) (T := F_R) (N := 9) hx hb hts (kx_in in_R) hown hK hP 0 rfl rfl 8 (by decide) (hts _ (kx_w iw_64)) (fun _ h9 => h9) rfl d_R_openCount_1 ?_
  exact W.iret (v := v_open) hx hb hr (fun t ht hW => ⟨v_open, rfl, hw, ht⟩) (fun _ h => by cases h) d_R_openCount_4
set_option maxHeartbeats 4000000 in
set_option maxRecDepth 100000 in
theorem k_R_openCompany (l : Launch) (dC : Nat → ClassId) (dI : Nat → Nat → Nat) (cI cL cZ : ClassId)  (h0 a_amounts a_stepAmounts a_groupAmounts a_outsidersCredits a_openPlaces : Nat) (v_made : Int32) (v_companies : Int32) (v_accounts : Int32) (v_open : Int32) (v_openPlaces : (Nat → Int32)) (sz : Nat) (p0 : Int32) {post : Int32 → Unit → Prop} (hw : wp_R_openCompany p0 v_openPlaces post) : Met l y_R_openCompany ws_R_openCompany rm_R_openCompany (kx_Pc (dC, dI) classes (kx_T cI cL cZ) (WS_R_openCompany cI cL cZ h0 a_amounts a_stepAmounts a_groupAmounts a_outsidersCredits a_openPlaces v_made v_companies v_accounts v_open v_openPlaces) sz [.ref h0, .int p0]) (kx_QPi post) 0 0 (fun _ => False) := by
  refine Met.ofW (cc := prog_3_method_14_code) (maxL := 2) (ret := (some .int)) (by decide) rfl ?_
  intro p e s m args below meth c s₁ B hml hv
  obtain ⟨rfl, hsz, hP, hK, hD, hN⟩ := hv
  have hx := B.exec
  have hb := B.bytes
  have hr := B.returns
  have hts := atoms_spec (ws := ws_R_openCompany) B.pre
  have hown : s.vm.findClass R_R = some m.cls := findClass_of_methodNamed B.named
  have hlocks := B.notSynchronized
  subst hsz
  have hP : va_P (dC, dI) classes (WS_R_openCompany cI cL cZ h0 a_amounts a_stepAmounts a_groupAmounts a_outsidersCredits a_openPlaces v_made v_companies v_accounts v_open v_openPlaces) s.heap := hP
  have hl := lv_entry ([.ref h0, .int p0]) (n := 2) (Nat.le_of_ble_eq_true rfl)
  rw [lg_entry_eq]
  generalize (lg_sl ([.ref h0, .int p0]) ++ List.replicate (2 - (lg_sl ([.ref h0, .int p0])).length) Slot.unset).toArray = ls at hl ⊢
  have hl : lv_has ls 2 [(0, .ref h0), (1, .int p0)] := hl
  unfold wp_R_openCompany at hw
  refine lv_aload_n hx hb d_R_openCompany_0 rfl (lv_at hl 0 rfl) ?_
  refine va_get (D := (dC, dI)) (ci := 1) (v := .ref a_openPlaces) (C := R_R) (T := F_R) (N := 9) hx hb hts (kx_in in_R) hown hK hP 0 rfl rfl 7 (by decide) (hts _ (kx_w iw_63)) (fun _ h9 => h9) rfl d_R_openCompany_1 ?_
  refine lv_iload_n hx hb d_R_openCompany_4 rfl (lv_at hl 1 rfl) ?_
  obtain ⟨hi, hw⟩ := hw
  refine va_iald hx hb hK hP 1 0 rfl rfl hi d_R_openCompany_5 ?_
  refine lv_sipush (v := 156) hx hb d_R_openCompany_6 (by decide) ?_
  refine lv_idiv hx hb d_R_openCompany_9 (by decide) ?_
  exact W.iret (v := ((v_openPlaces p0.toNatClampNeg) / 156)) hx hb hr (fun t ht hW => ⟨((v_openPlaces p0.toNatClampNeg) / 156), rfl, hw, ht⟩) (fun _ h => by cases h) d_R_openCompany_10
set_option maxHeartbeats 4000000 in
set_option maxRecDepth 100000 in
theorem k_R_openPartner (l : Launch) (dC : Nat → ClassId) (dI : Nat → Nat → Nat) (cI cL cZ : ClassId)  (h0 a_amounts a_stepAmounts a_groupAmounts a_outsidersCredits a_openPlaces : Nat) (v_made : Int32) (v_companies : Int32) (v_accounts : Int32) (v_open : Int32) (v_openPlaces : (Nat → Int32)) (sz : Nat) (p0 : Int32) {post : Int32 → Unit → Prop} (hw : wp_R_openPartner p0 v_openPlaces post) : Met l y_R_openPartner ws_R_openPartner rm_R_openPartner (kx_Pc (dC, dI) classes (kx_T cI cL cZ) (WS_R_openPartner cI cL cZ h0 a_amounts a_stepAmounts a_groupAmounts a_outsidersCredits a_openPlaces v_made v_companies v_accounts v_open v_openPlaces) sz [.ref h0, .int p0]) (kx_QPi post) 0 0 (fun _ => False) := by
  refine Met.ofW (cc := prog_3_method_15_code) (maxL := 2) (ret := (some .int)) (by decide) rfl ?_
  intro p e s m args below meth c s₁ B hml hv
  obtain ⟨rfl, hsz, hP, hK, hD, hN⟩ := hv
  have hx := B.exec
  have hb := B.bytes
  have hr := B.returns
  have hts := atoms_spec (ws := ws_R_openPartner) B.pre
  have hown : s.vm.findClass R_R = some m.cls := findClass_of_methodNamed B.named
  have hlocks := B.notSynchronized
  subst hsz
  have hP : va_P (dC, dI) classes (WS_R_openPartner cI cL cZ h0 a_amounts a_stepAmounts a_groupAmounts a_outsidersCredits a_openPlaces v_made v_companies v_accounts v_open v_openPlaces) s.heap := hP
  have hl := lv_entry ([.ref h0, .int p0]) (n := 2) (Nat.le_of_ble_eq_true rfl)
  rw [lg_entry_eq]
  generalize (lg_sl ([.ref h0, .int p0]) ++ List.replicate (2 - (lg_sl ([.ref h0, .int p0])).length) Slot.unset).toArray = ls at hl ⊢
  have hl : lv_has ls 2 [(0, .ref h0), (1, .int p0)] := hl
  unfold wp_R_openPartner at hw
  refine lv_aload_n hx hb d_R_openPartner_0 rfl (lv_at hl 0 rfl) ?_
  refine va_get (D := (dC, dI)) (ci := 1) (v := .ref a_openPlaces) (C := R_R) (T := F_R) (N := 9) hx hb hts (kx_in in_R) hown hK hP 0 rfl rfl 7 (by decide) (hts _ (kx_w iw_63)) (fun _ h9 => h9) rfl d_R_openPartner_1 ?_
  refine lv_iload_n hx hb d_R_openPartner_4 rfl (lv_at hl 1 rfl) ?_
  obtain ⟨hi, hw⟩ := hw
  refine va_iald hx hb hK hP 1 0 rfl rfl hi d_R_openPartner_5 ?_
  refine lv_bipush (v := 12) hx hb d_R_openPartner_6 (by decide) ?_
  refine lv_idiv hx hb d_R_openPartner_8 (by decide) ?_
  refine lv_bipush (v := 13) hx hb d_R_openPartner_9 (by decide) ?_
  refine lv_irem hx hb d_R_openPartner_11 (by decide) ?_
  refine lv_iconst (v := 1) hx hb d_R_openPartner_12 (by decide) ?_
  refine lv_isub hx hb d_R_openPartner_13 ?_
  exact W.iret (v := ((((v_openPlaces p0.toNatClampNeg) / 12) - ((v_openPlaces p0.toNatClampNeg) / 12) / 13 * 13) - 1)) hx hb hr (fun t ht hW => ⟨((((v_openPlaces p0.toNatClampNeg) / 12) - ((v_openPlaces p0.toNatClampNeg) / 12) / 13 * 13) - 1), rfl, hw, ht⟩) (fun _ h => by cases h) d_R_openPartner_14
set_option maxHeartbeats 4000000 in
set_option maxRecDepth 100000 in
theorem k_R_openAccount (l : Launch) (dC : Nat → ClassId) (dI : Nat → Nat → Nat) (cI cL cZ : ClassId)  (h0 a_amounts a_stepAmounts a_groupAmounts a_outsidersCredits a_openPlaces : Nat) (v_made : Int32) (v_companies : Int32) (v_accounts : Int32) (v_open : Int32) (v_openPlaces : (Nat → Int32)) (sz : Nat) (p0 : Int32) {post : Int32 → Unit → Prop} (hw : wp_R_openAccount p0 v_openPlaces post) : Met l y_R_openAccount ws_R_openAccount rm_R_openAccount (kx_Pc (dC, dI) classes (kx_T cI cL cZ) (WS_R_openAccount cI cL cZ h0 a_amounts a_stepAmounts a_groupAmounts a_outsidersCredits a_openPlaces v_made v_companies v_accounts v_open v_openPlaces) sz [.ref h0, .int p0]) (kx_QPi post) 0 0 (fun _ => False) := by
  refine Met.ofW (cc := prog_3_method_16_code) (maxL := 2) (ret := (some .int)) (by decide) rfl ?_
  intro p e s m args below meth c s₁ B hml hv
  obtain ⟨rfl, hsz, hP, hK, hD, hN⟩ := hv
  have hx := B.exec
  have hb := B.bytes
  have hr := B.returns
  have hts := atoms_spec (ws := ws_R_openAccount) B.pre
  have hown : s.vm.findClass R_R = some m.cls := findClass_of_methodNamed B.named
  have hlocks := B.notSynchronized
  subst hsz
  have hP : va_P (dC, dI) classes (WS_R_openAccount cI cL cZ h0 a_amounts a_stepAmounts a_groupAmounts a_outsidersCredits a_openPlaces v_made v_companies v_accounts v_open v_openPlaces) s.heap := hP
  have hl := lv_entry ([.ref h0, .int p0]) (n := 2) (Nat.le_of_ble_eq_true rfl)
  rw [lg_entry_eq]
  generalize (lg_sl ([.ref h0, .int p0]) ++ List.replicate (2 - (lg_sl ([.ref h0, .int p0])).length) Slot.unset).toArray = ls at hl ⊢
  have hl : lv_has ls 2 [(0, .ref h0), (1, .int p0)] := hl
  unfold wp_R_openAccount at hw
  refine lv_aload_n hx hb d_R_openAccount_0 rfl (lv_at hl 0 rfl) ?_
  refine va_get (D := (dC, dI)) (ci := 1) (v := .ref a_openPlaces) (C := R_R) (T := F_R) (N := 9) hx hb hts (kx_in in_R) hown hK hP 0 rfl rfl 7 (by decide) (hts _ (kx_w iw_63)) (fun _ h9 => h9) rfl d_R_openAccount_1 ?_
  refine lv_iload_n hx hb d_R_openAccount_4 rfl (lv_at hl 1 rfl) ?_
  obtain ⟨hi, hw⟩ := hw
  refine va_iald hx hb hK hP 1 0 rfl rfl hi d_R_openAccount_5 ?_
  refine lv_bipush (v := 12) hx hb d_R_openAccount_6 (by decide) ?_
  refine lv_irem hx hb d_R_openAccount_8 (by decide) ?_
  exact W.iret (v := ((v_openPlaces p0.toNatClampNeg) - (v_openPlaces p0.toNatClampNeg) / 12 * 12)) hx hb hr (fun t ht hW => ⟨((v_openPlaces p0.toNatClampNeg) - (v_openPlaces p0.toNatClampNeg) / 12 * 12), rfl, hw, ht⟩) (fun _ h => by cases h) d_R_openAccount_9
set_option maxHeartbeats 4000000 in
set_option maxRecDepth 100000 in
theorem k_R_openAmount (l : Launch) (dC : Nat → ClassId) (dI : Nat → Nat → Nat) (cI cL cZ : ClassId)  (h0 a_amounts a_stepAmounts a_groupAmounts a_outsidersCredits a_openPlaces : Nat) (v_made : Int32) (v_companies : Int32) (v_accounts : Int32) (v_open : Int32) (v_amounts : (Nat → Int64)) (v_openPlaces : (Nat → Int32)) (sz : Nat) (p0 : Int32) {post : Int64 → Unit → Prop} (hw : wp_R_openAmount p0 v_amounts v_openPlaces post) : Met l y_R_openAmount ws_R_openAmount rm_R_openAmount (kx_Pc (dC, dI) classes (kx_T cI cL cZ) (WS_R_openAmount cI cL cZ h0 a_amounts a_stepAmounts a_groupAmounts a_outsidersCredits a_openPlaces v_made v_companies v_accounts v_open v_amounts v_openPlaces) sz [.ref h0, .int p0]) (kx_QPl post) 0 0 (fun _ => False) := by
  refine Met.ofW (cc := prog_3_method_17_code) (maxL := 2) (ret := (some .long)) (by decide) rfl ?_
  intro p e s m args below meth c s₁ B hml hv
  obtain ⟨rfl, hsz, hP, hK, hD, hN⟩ := hv
  have hx := B.exec
  have hb := B.bytes
  have hr := B.returns
  have hts := atoms_spec (ws := ws_R_openAmount) B.pre
  have hown : s.vm.findClass R_R = some m.cls := findClass_of_methodNamed B.named
  have hlocks := B.notSynchronized
  subst hsz
  have hP : va_P (dC, dI) classes (WS_R_openAmount cI cL cZ h0 a_amounts a_stepAmounts a_groupAmounts a_outsidersCredits a_openPlaces v_made v_companies v_accounts v_open v_amounts v_openPlaces) s.heap := hP
  have hl := lv_entry ([.ref h0, .int p0]) (n := 2) (Nat.le_of_ble_eq_true rfl)
  rw [lg_entry_eq]
  generalize (lg_sl ([.ref h0, .int p0]) ++ List.replicate (2 - (lg_sl ([.ref h0, .int p0])).length) Slot.unset).toArray = ls at hl ⊢
  have hl : lv_has ls 2 [(0, .ref h0), (1, .int p0)] := hl
  unfold wp_R_openAmount at hw
  refine lv_aload_n hx hb d_R_openAmount_0 rfl (lv_at hl 0 rfl) ?_
  refine va_get (D := (dC, dI)) (ci := 1) (v := .ref a_amounts) (C := R_R) (T := F_R) (N := 9) hx hb hts (kx_in in_R) hown hK hP 0 rfl rfl 3 (by decide) (hts _ (kx_w iw_59)) (fun _ h9 => h9) rfl d_R_openAmount_1 ?_
  refine lv_aload_n hx hb d_R_openAmount_4 rfl (lv_at hl 0 rfl) ?_
  refine va_get (D := (dC, dI)) (ci := 1) (v := .ref a_openPlaces) (C := R_R) (T := F_R) (N := 9) hx hb hts (kx_in in_R) hown hK hP 0 rfl rfl 7 (by decide) (hts _ (kx_w iw_63)) (fun _ h9 => h9) rfl d_R_openAmount_5 ?_
  refine lv_iload_n hx hb d_R_openAmount_8 rfl (lv_at hl 1 rfl) ?_
  obtain ⟨hi, hw⟩ := hw
  refine va_iald hx hb hK hP 2 0 rfl rfl hi d_R_openAmount_9 ?_
  obtain ⟨hi, hw⟩ := hw
  refine va_lald hx hb hK hP 1 1 rfl rfl hi d_R_openAmount_10 ?_
  exact W.lret (v := (v_amounts (Int32.toNatClampNeg (v_openPlaces p0.toNatClampNeg)))) hx hb hr (fun t ht hW => ⟨(v_amounts (Int32.toNatClampNeg (v_openPlaces p0.toNatClampNeg))), rfl, hw, ht⟩) (fun _ h => by cases h) d_R_openAmount_11
