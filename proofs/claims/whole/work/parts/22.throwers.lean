/-! ConsolidationDesk.posted(III)J -/
abbrev y_D_posted : MethodName := ⟨"ConsolidationDesk", "posted", "(III)J"⟩
theorem d_D_posted_0 : decode prog_1_method_8_code 0 = .ok (.aload_n 0, 1) := by decide +kernel
theorem d_D_posted_1 : decode prog_1_method_8_code 1 = .ok (.iload_n 1, 1) := by decide +kernel
theorem d_D_posted_2 : decode prog_1_method_8_code 2 = .ok (.iload_n 2, 1) := by decide +kernel
theorem d_D_posted_3 : decode prog_1_method_8_code 3 = .ok (.iload_n 3, 1) := by decide +kernel
theorem d_D_posted_4 : decode prog_1_method_8_code 4 = .ok (.invokevirtual 68, 3) := by decide +kernel
theorem d_D_posted_7 : decode prog_1_method_8_code 7 = .ok (.ifCond .ne 11, 3) := by decide +kernel
theorem d_D_posted_10 : decode prog_1_method_8_code 10 = .ok (.new 86, 3) := by decide +kernel
theorem d_D_posted_13 : decode prog_1_method_8_code 13 = .ok (.dup, 1) := by decide +kernel
theorem d_D_posted_14 : decode prog_1_method_8_code 14 = .ok (.invokespecial 88, 3) := by decide +kernel
theorem d_D_posted_17 : decode prog_1_method_8_code 17 = .ok (.athrow, 1) := by decide +kernel
theorem d_D_posted_18 : decode prog_1_method_8_code 18 = .ok (.aload_n 0, 1) := by decide +kernel
theorem d_D_posted_19 : decode prog_1_method_8_code 19 = .ok (.getfield 33, 3) := by decide +kernel
theorem d_D_posted_22 : decode prog_1_method_8_code 22 = .ok (.iload_n 1, 1) := by decide +kernel
theorem d_D_posted_23 : decode prog_1_method_8_code 23 = .ok (.iload_n 3, 1) := by decide +kernel
theorem d_D_posted_24 : decode prog_1_method_8_code 24 = .ok (.iload_n 2, 1) := by decide +kernel
theorem d_D_posted_25 : decode prog_1_method_8_code 25 = .ok (.invokestatic 75, 3) := by decide +kernel
theorem d_D_posted_28 : decode prog_1_method_8_code 28 = .ok (.laload, 1) := by decide +kernel
theorem d_D_posted_29 : decode prog_1_method_8_code 29 = .ok (.lreturn, 1) := by decide +kernel
abbrev WS_D_posted (cI cL cZ : ClassId) (h0 a_currencyOf a_sortOf a_closingRates a_averageRates a_sums a_historicAmounts a_holdings a_report : Nat) (v_companies : Int32) (v_accounts : Int32) (v_reserve : Int32) (v_sums : (Nat → Int64)) : va_W := [(h0, .inr (2, [.int v_companies, .ref a_currencyOf, .int v_accounts, .ref a_sortOf, .int v_reserve, .ref a_closingRates, .ref a_averageRates, .ref a_sums, .ref a_historicAmounts, .ref a_holdings, .ref a_report])), (a_sums, .inl (cL, 1872, .inr (.inl v_sums)))]
def wp_D_posted (p0 : Int32) (p1 : Int32) (p2 : Int32) (v_companies : Int32) (v_accounts : Int32) (v_sums : (Nat → Int64)) (post : Int64 → Unit → Prop) (thr : Prop) : Prop := (wp_D_isPlace p0 p1 p2 v_companies v_accounts (fun (r4 : Int32) (u4 : Unit) => ((¬ r4 = 0 → (wp_D_place p0 p2 p1 (fun (r25 : Int32) (u25 : Unit) => (vp_in r25 1872 ∧ post (v_sums r25.toNatClampNeg) ())))) ∧ (r4 = 0 → thr))))
abbrev ws_D_posted : List Cond := .code y_D_posted prog_1_method_8_code 4 (some .long) :: kxW
abbrev rt_D_posted : Room := { frames := 6, cells := 1, slots := 6, locals := 90 }
set_option maxHeartbeats 4000000 in
set_option maxRecDepth 100000 in
theorem t_D_posted (l : Launch) (hfl : l.flags = flags0) (dC : Nat → ClassId) (dI : Nat → Nat → Nat) (cI cL cZ : ClassId) (h0 a_currencyOf a_sortOf a_closingRates a_averageRates a_sums a_historicAmounts a_holdings a_report : Nat) (v_companies : Int32) (v_accounts : Int32) (v_reserve : Int32) (v_sums : (Nat → Int64)) (sz : Nat) (p0 : Int32) (p1 : Int32) (p2 : Int32) {post : Int64 → Unit → Prop} {thr : Prop} (hw : wp_D_posted p0 p1 p2 v_companies v_accounts v_sums post thr) : kt_Met l y_D_posted ws_D_posted rt_D_posted (fun v U => kx_Pc (dC, dI) classes (kx_T cI cL cZ) (WS_D_posted cI cL cZ h0 a_currencyOf a_sortOf a_closingRates a_averageRates a_sums a_historicAmounts a_holdings a_report v_companies v_accounts v_reserve v_sums) sz [.ref h0, .int p0, .int p1, .int p2] v U ∧ kt_N U) post thr := by
  refine kt_ofW (cc := prog_1_method_8_code) (maxL := 4) (ret := (some .long)) (by decide) rfl ?_
  intro p e s m args below meth c s₁ B hml hv
  obtain ⟨⟨rfl, hsz, hP, hK, hD, hN⟩, hT⟩ := hv
  have hx := B.exec
  have hb := B.bytes
  have hr := B.returns
  have hts := atoms_spec (ws := ws_D_posted) B.pre
  have hown : s.vm.findClass R_D = some m.cls := findClass_of_methodNamed B.named
  have hlocks := B.notSynchronized
  subst hsz
  have hP : va_P (dC, dI) classes (WS_D_posted cI cL cZ h0 a_currencyOf a_sortOf a_closingRates a_averageRates a_sums a_historicAmounts a_holdings a_report v_companies v_accounts v_reserve v_sums) s.heap := hP
  have hl := lv_entry ([.ref h0, .int p0, .int p1, .int p2]) (n := 4) (Nat.le_of_ble_eq_true rfl)
  rw [lg_entry_eq]
  generalize (lg_sl ([.ref h0, .int p0, .int p1, .int p2]) ++ List.replicate (4 - (lg_sl ([.ref h0, .int p0, .int p1, .int p2])).length) Slot.unset).toArray = ls at hl ⊢
  have hl : lv_has ls 4 [(0, .ref h0), (1, .int p0), (2, .int p1), (3, .int p2)] := hl
  unfold wp_D_posted at hw
  have hnoh := B.noHandlers (hts _ List.mem_cons_self)
  refine lv_aload_n hx hb d_D_posted_0 rfl (lv_at hl 0 rfl) ?_
  refine lv_iload_n hx hb d_D_posted_1 rfl (lv_at hl 1 rfl) ?_
  refine lv_iload_n hx hb d_D_posted_2 rfl (lv_at hl 2 rfl) ?_
  refine lv_iload_n hx hb d_D_posted_3 rfl (lv_at hl 3 rfl) ?_
  refine kx_callpi (va_runV (As := [.int p0, .int p1, .int p2]) (rest := []) ⟨hx, hb, hml, hown, hts⟩ (k_D_isPlace l dC dI cI cL cZ h0 a_currencyOf a_sortOf a_closingRates a_averageRates a_sums a_historicAmounts a_holdings a_report v_companies v_accounts v_reserve s.heap.size p0 p1 p2 hw) ⟨(callB_of 3 hts (kx_good iw_197) rfl rfl rfl (hts _ (kx_w iw_1)) (hts _ (kx_w iw_194)) (by decide +kernel) ⟨Nat.le_of_ble_eq_true rfl, Nat.le_of_ble_eq_true rfl⟩), (hts _ (kx_w iw_196)), (hts _ (kx_w sl_D_isPlace))⟩ (kx_preV hN hK hP hD [0] (by decide) rfl 0 rfl rfl) rfl rfl hl.1 rfl (lv_room (Nat.le_of_ble_eq_true rfl)) d_D_posted_4 ⟨Nat.le_of_ble_eq_true rfl, Nat.le_of_ble_eq_true rfl⟩) (fun r4 hw => ?_)
  refine lv_if_ne (tgt := 18) hx hb d_D_posted_7 rfl (fun hc => ?_) (fun hc => ?_)
  ·
    have hw := hw.1 hc
    refine lv_aload_n hx hb d_D_posted_18 rfl (lv_at hl 0 rfl) ?_
    refine va_get (D := (dC, dI)) (ci := 2) (v := .ref a_sums) (C := R_D) (T := F_D) (N := 11) hx hb hts (kx_in in_D) hown hK hP 0 rfl rfl 7 (by decide) (hts _ (kx_w iw_91)) (fun _ h9 => h9) rfl d_D_posted_19 ?_
    refine lv_iload_n hx hb d_D_posted_22 rfl (lv_at hl 1 rfl) ?_
    refine lv_iload_n hx hb d_D_posted_23 rfl (lv_at hl 3 rfl) ?_
    refine lv_iload_n hx hb d_D_posted_24 rfl (lv_at hl 2 rfl) ?_
    refine kx_callpi (va_runS (As := [.int p0, .int p2, .int p1]) (rest := [.ref a_sums]) ⟨hx, hb, hml, hown, hts⟩ (k_D_place l dC dI cI cL cZ  s.heap.size p0 p2 p1 hw) ⟨(callB_of 3 hts (kx_good iw_212) rfl rfl rfl (hts _ (kx_w iw_1)) (hts _ (kx_w iw_210)) (by decide +kernel) ⟨Nat.le_of_ble_eq_true rfl, Nat.le_of_ble_eq_true rfl⟩), (hts _ (kx_w iw_211))⟩ (kx_preS hN hK hP hD [] (by decide) rfl) rfl rfl hl.1 rfl (lv_room (Nat.le_of_ble_eq_true rfl)) d_D_posted_25 ⟨Nat.le_of_ble_eq_true rfl, Nat.le_of_ble_eq_true rfl⟩) (fun r25 hw => ?_)
    obtain ⟨hi, hw⟩ := hw
    refine va_lald hx hb hK hP 1 1 rfl rfl hi d_D_posted_28 ?_
    exact kt_ret hx hb hr hlocks hw d_D_posted_29
  ·
    have hw := hw.2 hc
    exact kt_throw hfl hx hb hown hT (hts _ (kx_w iw_351)) (hts _ (kx_w iw_11)) hnoh hlocks (by rw [hml]; exact hl.1) d_D_posted_10 d_D_posted_13 d_D_posted_14 d_D_posted_17 (Nat.le_of_ble_eq_true rfl) (Nat.le_of_ble_eq_true rfl) (Nat.le_of_ble_eq_true rfl) (Nat.le_of_ble_eq_true rfl) hw
/-! ConsolidationDesk.group(I)J -/
abbrev y_D_group : MethodName := ⟨"ConsolidationDesk", "group", "(I)J"⟩
theorem d_D_group_0 : decode prog_1_method_13_code 0 = .ok (.aload_n 0, 1) := by decide +kernel
theorem d_D_group_1 : decode prog_1_method_13_code 1 = .ok (.getfield 50, 3) := by decide +kernel
theorem d_D_group_4 : decode prog_1_method_13_code 4 = .ok (.invokevirtual 125, 3) := by decide +kernel
theorem d_D_group_7 : decode prog_1_method_13_code 7 = .ok (.ifCond .eq 11, 3) := by decide +kernel
theorem d_D_group_10 : decode prog_1_method_13_code 10 = .ok (.aload_n 0, 1) := by decide +kernel
theorem d_D_group_11 : decode prog_1_method_13_code 11 = .ok (.iload_n 1, 1) := by decide +kernel
theorem d_D_group_12 : decode prog_1_method_13_code 12 = .ok (.invokevirtual 83, 3) := by decide +kernel
theorem d_D_group_15 : decode prog_1_method_13_code 15 = .ok (.ifCond .ne 11, 3) := by decide +kernel
theorem d_D_group_18 : decode prog_1_method_13_code 18 = .ok (.new 86, 3) := by decide +kernel
theorem d_D_group_21 : decode prog_1_method_13_code 21 = .ok (.dup, 1) := by decide +kernel
theorem d_D_group_22 : decode prog_1_method_13_code 22 = .ok (.invokespecial 88, 3) := by decide +kernel
theorem d_D_group_25 : decode prog_1_method_13_code 25 = .ok (.athrow, 1) := by decide +kernel
theorem d_D_group_26 : decode prog_1_method_13_code 26 = .ok (.aload_n 0, 1) := by decide +kernel
theorem d_D_group_27 : decode prog_1_method_13_code 27 = .ok (.getfield 50, 3) := by decide +kernel
theorem d_D_group_30 : decode prog_1_method_13_code 30 = .ok (.iload_n 1, 1) := by decide +kernel
theorem d_D_group_31 : decode prog_1_method_13_code 31 = .ok (.invokevirtual 129, 3) := by decide +kernel
theorem d_D_group_34 : decode prog_1_method_13_code 34 = .ok (.lreturn, 1) := by decide +kernel
abbrev WS_D_group (cI cL cZ : ClassId) (h0 a_currencyOf a_sortOf a_closingRates a_averageRates a_sums a_historicAmounts a_holdings a_report a_report_amounts a_report_stepAmounts a_report_groupAmounts a_report_outsidersCredits a_report_openPlaces : Nat) (v_companies : Int32) (v_accounts : Int32) (v_reserve : Int32) (v_report_made : Int32) (v_report_companies : Int32) (v_report_accounts : Int32) (v_report_open : Int32) (v_report_groupAmounts : (Nat → Int64)) : va_W := [(h0, .inr (2, [.int v_companies, .ref a_currencyOf, .int v_accounts, .ref a_sortOf, .int v_reserve, .ref a_closingRates, .ref a_averageRates, .ref a_sums, .ref a_historicAmounts, .ref a_holdings, .ref a_report])), (a_report, .inr (1, [.int v_report_made, .int v_report_companies, .int v_report_accounts, .ref a_report_amounts, .ref a_report_stepAmounts, .ref a_report_groupAmounts, .ref a_report_outsidersCredits, .ref a_report_openPlaces, .int v_report_open])), (a_report_groupAmounts, .inl (cL, 12, .inr (.inl v_report_groupAmounts)))]
def wp_D_group (p0 : Int32) (v_accounts : Int32) (v_report_made : Int32) (v_report_groupAmounts : (Nat → Int64)) (post : Int64 → Unit → Prop) (thr : Prop) : Prop := (wp_R_isMade v_report_made (fun (r4 : Int32) (u4 : Unit) => ((r4 = 0 → thr) ∧ (¬ r4 = 0 → (wp_D_isAccount p0 v_accounts (fun (r12 : Int32) (u12 : Unit) => ((¬ r12 = 0 → (wp_R_groupAmount p0 v_report_groupAmounts (fun (r31 : Int64) (u31 : Unit) => post r31 ()))) ∧ (r12 = 0 → thr))))))))
abbrev ws_D_group : List Cond := .code y_D_group prog_1_method_13_code 2 (some .long) :: kxW
abbrev rt_D_group : Room := { frames := 6, cells := 1, slots := 6, locals := 90 }
set_option maxHeartbeats 4000000 in
set_option maxRecDepth 100000 in
theorem t_D_group (l : Launch) (hfl : l.flags = flags0) (dC : Nat → ClassId) (dI : Nat → Nat → Nat) (cI cL cZ : ClassId) (h0 a_currencyOf a_sortOf a_closingRates a_averageRates a_sums a_historicAmounts a_holdings a_report a_report_amounts a_report_stepAmounts a_report_groupAmounts a_report_outsidersCredits a_report_openPlaces : Nat) (v_companies : Int32) (v_accounts : Int32) (v_reserve : Int32) (v_report_made : Int32) (v_report_companies : Int32) (v_report_accounts : Int32) (v_report_open : Int32) (v_report_groupAmounts : (Nat → Int64)) (sz : Nat) (p0 : Int32) {post : Int64 → Unit → Prop} {thr : Prop} (hw : wp_D_group p0 v_accounts v_report_made v_report_groupAmounts post thr) : kt_Met l y_D_group ws_D_group rt_D_group (fun v U => kx_Pc (dC, dI) classes (kx_T cI cL cZ) (WS_D_group cI cL cZ h0 a_currencyOf a_sortOf a_closingRates a_averageRates a_sums a_historicAmounts a_holdings a_report a_report_amounts a_report_stepAmounts a_report_groupAmounts a_report_outsidersCredits a_report_openPlaces v_companies v_accounts v_reserve v_report_made v_report_companies v_report_accounts v_report_open v_report_groupAmounts) sz [.ref h0, .int p0] v U ∧ kt_N U) post thr := by
  refine kt_ofW (cc := prog_1_method_13_code) (maxL := 2) (ret := (some .long)) (by decide) rfl ?_
  intro p e s m args below meth c s₁ B hml hv
  obtain ⟨⟨rfl, hsz, hP, hK, hD, hN⟩, hT⟩ := hv
  have hx := B.exec
  have hb := B.bytes
  have hr := B.returns
  have hts := atoms_spec (ws := ws_D_group) B.pre
  have hown : s.vm.findClass R_D = some m.cls := findClass_of_methodNamed B.named
  have hlocks := B.notSynchronized
  subst hsz
  have hP : va_P (dC, dI) classes (WS_D_group cI cL cZ h0 a_currencyOf a_sortOf a_closingRates a_averageRates a_sums a_historicAmounts a_holdings a_report a_report_amounts a_report_stepAmounts a_report_groupAmounts a_report_outsidersCredits a_report_openPlaces v_companies v_accounts v_reserve v_report_made v_report_companies v_report_accounts v_report_open v_report_groupAmounts) s.heap := hP
  have hl := lv_entry ([.ref h0, .int p0]) (n := 2) (Nat.le_of_ble_eq_true rfl)
  rw [lg_entry_eq]
  generalize (lg_sl ([.ref h0, .int p0]) ++ List.replicate (2 - (lg_sl ([.ref h0, .int p0])).length) Slot.unset).toArray = ls at hl ⊢
  have hl : lv_has ls 2 [(0, .ref h0), (1, .int p0)] := hl
  unfold wp_D_group at hw
  have hnoh := B.noHandlers (hts _ List.mem_cons_self)
  refine lv_aload_n hx hb d_D_group_0 rfl (lv_at hl 0 rfl) ?_
  refine va_get (D := (dC, dI)) (ci := 2) (v := .ref a_report) (C := R_D) (T := F_D) (N := 11) hx hb hts (kx_in in_D) hown hK hP 0 rfl rfl 10 (by decide) (hts _ (kx_w iw_94)) (fun _ h9 => h9) rfl d_D_group_1 ?_
  refine kx_callpi (va_runV (As := []) (rest := []) ⟨hx, hb, hml, hown, hts⟩ (k_R_isMade l dC dI cI cL cZ a_report a_report_amounts a_report_stepAmounts a_report_groupAmounts a_report_outsidersCredits a_report_openPlaces v_report_made v_report_companies v_report_accounts v_report_open s.heap.size  hw) ⟨(callB_of 0 hts (kx_good iw_422) rfl rfl rfl (hts _ (kx_w iw_3)) (hts _ (kx_w iw_419)) (by decide +kernel) ⟨Nat.le_of_ble_eq_true rfl, Nat.le_of_ble_eq_true rfl⟩), (hts _ (kx_w iw_420)), (hts _ (kx_w iw_421))⟩ (kx_preV hN hK hP hD [1] (by decide) rfl 1 rfl rfl) rfl rfl hl.1 rfl (lv_room (Nat.le_of_ble_eq_true rfl)) d_D_group_4 ⟨Nat.le_of_ble_eq_true rfl, Nat.le_of_ble_eq_true rfl⟩) (fun r4 hw => ?_)
  refine lv_if_eq (tgt := 18) hx hb d_D_group_7 rfl (fun hc => ?_) (fun hc => ?_)
  ·
    have hw := hw.1 hc
    exact kt_throw hfl hx hb hown hT (hts _ (kx_w iw_351)) (hts _ (kx_w iw_11)) hnoh hlocks (by rw [hml]; exact hl.1) d_D_group_18 d_D_group_21 d_D_group_22 d_D_group_25 (Nat.le_of_ble_eq_true rfl) (Nat.le_of_ble_eq_true rfl) (Nat.le_of_ble_eq_true rfl) (Nat.le_of_ble_eq_true rfl) hw
  ·
    have hw := hw.2 hc
    refine lv_aload_n hx hb d_D_group_10 rfl (lv_at hl 0 rfl) ?_
    refine lv_iload_n hx hb d_D_group_11 rfl (lv_at hl 1 rfl) ?_
    refine kx_callpi (va_runV (As := [.int p0]) (rest := []) ⟨hx, hb, hml, hown, hts⟩ (k_D_isAccount l dC dI cI cL cZ h0 a_currencyOf a_sortOf a_closingRates a_averageRates a_sums a_historicAmounts a_holdings a_report v_companies v_accounts v_reserve s.heap.size p0 hw) ⟨(callB_of 1 hts (kx_good iw_201) rfl rfl rfl (hts _ (kx_w iw_1)) (hts _ (kx_w iw_198)) (by decide +kernel) ⟨Nat.le_of_ble_eq_true rfl, Nat.le_of_ble_eq_true rfl⟩), (hts _ (kx_w iw_200)), (hts _ (kx_w sl_D_isAccount))⟩ (kx_preV hN hK hP hD [0] (by decide) rfl 0 rfl rfl) rfl rfl hl.1 rfl (lv_room (Nat.le_of_ble_eq_true rfl)) d_D_group_12 ⟨Nat.le_of_ble_eq_true rfl, Nat.le_of_ble_eq_true rfl⟩) (fun r12 hw => ?_)
    refine lv_if_ne (tgt := 26) hx hb d_D_group_15 rfl (fun hc => ?_) (fun hc => ?_)
    ·
      have hw := hw.1 hc
      refine lv_aload_n hx hb d_D_group_26 rfl (lv_at hl 0 rfl) ?_
      refine va_get (D := (dC, dI)) (ci := 2) (v := .ref a_report) (C := R_D) (T := F_D) (N := 11) hx hb hts (kx_in in_D) hown hK hP 0 rfl rfl 10 (by decide) (hts _ (kx_w iw_94)) (fun _ h9 => h9) rfl d_D_group_27 ?_
      refine lv_iload_n hx hb d_D_group_30 rfl (lv_at hl 1 rfl) ?_
      refine kx_callpl (va_runV (As := [.int p0]) (rest := []) ⟨hx, hb, hml, hown, hts⟩ (k_R_groupAmount l dC dI cI cL cZ a_report a_report_amounts a_report_stepAmounts a_report_groupAmounts a_report_outsidersCredits a_report_openPlaces v_report_made v_report_companies v_report_accounts v_report_open v_report_groupAmounts s.heap.size p0 hw) ⟨(callB_of 1 hts (kx_good iw_426) rfl rfl rfl (hts _ (kx_w iw_3)) (hts _ (kx_w iw_423)) (by decide +kernel) ⟨Nat.le_of_ble_eq_true rfl, Nat.le_of_ble_eq_true rfl⟩), (hts _ (kx_w iw_424)), (hts _ (kx_w iw_425))⟩ (kx_preV hN hK hP hD [1, 2] (by decide) rfl 1 rfl rfl) rfl rfl hl.1 rfl (lv_room (Nat.le_of_ble_eq_true rfl)) d_D_group_31 ⟨Nat.le_of_ble_eq_true rfl, Nat.le_of_ble_eq_true rfl⟩) (fun r31 hw => ?_)
      exact kt_ret hx hb hr hlocks hw d_D_group_34
    ·
      have hw := hw.2 hc
      exact kt_throw hfl hx hb hown hT (hts _ (kx_w iw_351)) (hts _ (kx_w iw_11)) hnoh hlocks (by rw [hml]; exact hl.1) d_D_group_18 d_D_group_21 d_D_group_22 d_D_group_25 (Nat.le_of_ble_eq_true rfl) (Nat.le_of_ble_eq_true rfl) (Nat.le_of_ble_eq_true rfl) (Nat.le_of_ble_eq_true rfl) hw
/-! ConsolidationDesk.trace(III)J -/
abbrev y_D_trace : MethodName := ⟨"ConsolidationDesk", "trace", "(III)J"⟩
theorem d_D_trace_0 : decode prog_1_method_14_code 0 = .ok (.aload_n 0, 1) := by decide +kernel
theorem d_D_trace_1 : decode prog_1_method_14_code 1 = .ok (.getfield 50, 3) := by decide +kernel
theorem d_D_trace_4 : decode prog_1_method_14_code 4 = .ok (.invokevirtual 125, 3) := by decide +kernel
theorem d_D_trace_7 : decode prog_1_method_14_code 7 = .ok (.ifCond .eq 19, 3) := by decide +kernel
theorem d_D_trace_10 : decode prog_1_method_14_code 10 = .ok (.aload_n 0, 1) := by decide +kernel
theorem d_D_trace_11 : decode prog_1_method_14_code 11 = .ok (.iload_n 1, 1) := by decide +kernel
theorem d_D_trace_12 : decode prog_1_method_14_code 12 = .ok (.invokevirtual 83, 3) := by decide +kernel
theorem d_D_trace_15 : decode prog_1_method_14_code 15 = .ok (.ifCond .eq 11, 3) := by decide +kernel
theorem d_D_trace_18 : decode prog_1_method_14_code 18 = .ok (.aload_n 0, 1) := by decide +kernel
theorem d_D_trace_19 : decode prog_1_method_14_code 19 = .ok (.iload_n 2, 1) := by decide +kernel
theorem d_D_trace_20 : decode prog_1_method_14_code 20 = .ok (.invokevirtual 58, 3) := by decide +kernel
theorem d_D_trace_23 : decode prog_1_method_14_code 23 = .ok (.ifCond .ne 11, 3) := by decide +kernel
theorem d_D_trace_26 : decode prog_1_method_14_code 26 = .ok (.new 86, 3) := by decide +kernel
theorem d_D_trace_29 : decode prog_1_method_14_code 29 = .ok (.dup, 1) := by decide +kernel
theorem d_D_trace_30 : decode prog_1_method_14_code 30 = .ok (.invokespecial 88, 3) := by decide +kernel
theorem d_D_trace_33 : decode prog_1_method_14_code 33 = .ok (.athrow, 1) := by decide +kernel
theorem d_D_trace_34 : decode prog_1_method_14_code 34 = .ok (.iload_n 3, 1) := by decide +kernel
theorem d_D_trace_35 : decode prog_1_method_14_code 35 = .ok (.ifCond .lt 8, 3) := by decide +kernel
theorem d_D_trace_38 : decode prog_1_method_14_code 38 = .ok (.iload_n 3, 1) := by decide +kernel
theorem d_D_trace_39 : decode prog_1_method_14_code 39 = .ok (.iconst 3, 1) := by decide +kernel
theorem d_D_trace_40 : decode prog_1_method_14_code 40 = .ok (.if_icmp .lt 11, 3) := by decide +kernel
theorem d_D_trace_43 : decode prog_1_method_14_code 43 = .ok (.new 86, 3) := by decide +kernel
theorem d_D_trace_46 : decode prog_1_method_14_code 46 = .ok (.dup, 1) := by decide +kernel
theorem d_D_trace_47 : decode prog_1_method_14_code 47 = .ok (.invokespecial 88, 3) := by decide +kernel
theorem d_D_trace_50 : decode prog_1_method_14_code 50 = .ok (.athrow, 1) := by decide +kernel
theorem d_D_trace_51 : decode prog_1_method_14_code 51 = .ok (.aload_n 0, 1) := by decide +kernel
theorem d_D_trace_52 : decode prog_1_method_14_code 52 = .ok (.getfield 50, 3) := by decide +kernel
theorem d_D_trace_55 : decode prog_1_method_14_code 55 = .ok (.iload_n 3, 1) := by decide +kernel
theorem d_D_trace_56 : decode prog_1_method_14_code 56 = .ok (.iload_n 2, 1) := by decide +kernel
theorem d_D_trace_57 : decode prog_1_method_14_code 57 = .ok (.iload_n 1, 1) := by decide +kernel
theorem d_D_trace_58 : decode prog_1_method_14_code 58 = .ok (.invokevirtual 132, 3) := by decide +kernel
theorem d_D_trace_61 : decode prog_1_method_14_code 61 = .ok (.lreturn, 1) := by decide +kernel
abbrev WS_D_trace (cI cL cZ : ClassId) (h0 a_currencyOf a_sortOf a_closingRates a_averageRates a_sums a_historicAmounts a_holdings a_report a_report_amounts a_report_stepAmounts a_report_groupAmounts a_report_outsidersCredits a_report_openPlaces : Nat) (v_companies : Int32) (v_accounts : Int32) (v_reserve : Int32) (v_report_made : Int32) (v_report_companies : Int32) (v_report_accounts : Int32) (v_report_open : Int32) (v_report_stepAmounts : (Nat → Int64)) : va_W := [(h0, .inr (2, [.int v_companies, .ref a_currencyOf, .int v_accounts, .ref a_sortOf, .int v_reserve, .ref a_closingRates, .ref a_averageRates, .ref a_sums, .ref a_historicAmounts, .ref a_holdings, .ref a_report])), (a_report, .inr (1, [.int v_report_made, .int v_report_companies, .int v_report_accounts, .ref a_report_amounts, .ref a_report_stepAmounts, .ref a_report_groupAmounts, .ref a_report_outsidersCredits, .ref a_report_openPlaces, .int v_report_open])), (a_report_stepAmounts, .inl (cL, 432, .inr (.inl v_report_stepAmounts)))]
def wp_D_trace (p0 : Int32) (p1 : Int32) (p2 : Int32) (v_companies : Int32) (v_accounts : Int32) (v_report_made : Int32) (v_report_stepAmounts : (Nat → Int64)) (post : Int64 → Unit → Prop) (thr : Prop) : Prop := (wp_R_isMade v_report_made (fun (r4 : Int32) (u4 : Unit) => ((r4 = 0 → thr) ∧ (¬ r4 = 0 → (wp_D_isAccount p0 v_accounts (fun (r12 : Int32) (u12 : Unit) => ((r12 = 0 → thr) ∧ (¬ r12 = 0 → (wp_D_isCompany p1 v_companies (fun (r20 : Int32) (u20 : Unit) => ((¬ r20 = 0 → ((p2 < 0 → thr) ∧ (¬ p2 < 0 → ((p2 < 3 → (wp_R_stepAmount p2 p1 p0 v_report_stepAmounts (fun (r58 : Int64) (u58 : Unit) => post r58 ()))) ∧ (¬ p2 < 3 → thr))))) ∧ (r20 = 0 → thr))))))))))))
abbrev ws_D_trace : List Cond := .code y_D_trace prog_1_method_14_code 4 (some .long) :: kxW
abbrev rt_D_trace : Room := { frames := 6, cells := 1, slots := 6, locals := 90 }
set_option maxHeartbeats 4000000 in
set_option maxRecDepth 100000 in
theorem t_D_trace (l : Launch) (hfl : l.flags = flags0) (dC : Nat → ClassId) (dI : Nat → Nat → Nat) (cI cL cZ : ClassId) (h0 a_currencyOf a_sortOf a_closingRates a_averageRates a_sums a_historicAmounts a_holdings a_report a_report_amounts a_report_stepAmounts a_report_groupAmounts a_report_outsidersCredits a_report_openPlaces : Nat) (v_companies : Int32) (v_accounts : Int32) (v_reserve : Int32) (v_report_made : Int32) (v_report_companies : Int32) (v_report_accounts : Int32) (v_report_open : Int32) (v_report_stepAmounts : (Nat → Int64)) (sz : Nat) (p0 : Int32) (p1 : Int32) (p2 : Int32) {post : Int64 → Unit → Prop} {thr : Prop} (hw : wp_D_trace p0 p1 p2 v_companies v_accounts v_report_made v_report_stepAmounts post thr) : kt_Met l y_D_trace ws_D_trace rt_D_trace (fun v U => kx_Pc (dC, dI) classes (kx_T cI cL cZ) (WS_D_trace cI cL cZ h0 a_currencyOf a_sortOf a_closingRates a_averageRates a_sums a_historicAmounts a_holdings a_report a_report_amounts a_report_stepAmounts a_report_groupAmounts a_report_outsidersCredits a_report_openPlaces v_companies v_accounts v_reserve v_report_made v_report_companies v_report_accounts v_report_open v_report_stepAmounts) sz [.ref h0, .int p0, .int p1, .int p2] v U ∧ kt_N U) post thr := by
  refine kt_ofW (cc := prog_1_method_14_code) (maxL := 4) (ret := (some .long)) (by decide) rfl ?_
  intro p e s m args below meth c s₁ B hml hv
  obtain ⟨⟨rfl, hsz, hP, hK, hD, hN⟩, hT⟩ := hv
  have hx := B.exec
  have hb := B.bytes
  have hr := B.returns
  have hts := atoms_spec (ws := ws_D_trace) B.pre
  have hown : s.vm.findClass R_D = some m.cls := findClass_of_methodNamed B.named
  have hlocks := B.notSynchronized
  subst hsz
  have hP : va_P (dC, dI) classes (WS_D_trace cI cL cZ h0 a_currencyOf a_sortOf a_closingRates a_averageRates a_sums a_historicAmounts a_holdings a_report a_report_amounts a_report_stepAmounts a_report_groupAmounts a_report_outsidersCredits a_report_openPlaces v_companies v_accounts v_reserve v_report_made v_report_companies v_report_accounts v_report_open v_report_stepAmounts) s.heap := hP
  have hl := lv_entry ([.ref h0, .int p0, .int p1, .int p2]) (n := 4) (Nat.le_of_ble_eq_true rfl)
  rw [lg_entry_eq]
  generalize (lg_sl ([.ref h0, .int p0, .int p1, .int p2]) ++ List.replicate (4 - (lg_sl ([.ref h0, .int p0, .int p1, .int p2])).length) Slot.unset).toArray = ls at hl ⊢
  have hl : lv_has ls 4 [(0, .ref h0), (1, .int p0), (2, .int p1), (3, .int p2)] := hl
  unfold wp_D_trace at hw
  have hnoh := B.noHandlers (hts _ List.mem_cons_self)
  refine lv_aload_n hx hb d_D_trace_0 rfl (lv_at hl 0 rfl) ?_
  refine va_get (D := (dC, dI)) (ci := 2) (v := .ref a_report) (C := R_D) (T := F_D) (N := 11) hx hb hts (kx_in in_D) hown hK hP 0 rfl rfl 10 (by decide) (hts _ (kx_w iw_94)) (fun _ h9 => h9) rfl d_D_trace_1 ?_
  refine kx_callpi (va_runV (As := []) (rest := []) ⟨hx, hb, hml, hown, hts⟩ (k_R_isMade l dC dI cI cL cZ a_report a_report_amounts a_report_stepAmounts a_report_groupAmounts a_report_outsidersCredits a_report_openPlaces v_report_made v_report_companies v_report_accounts v_report_open s.heap.size  hw) ⟨(callB_of 0 hts (kx_good iw_422) rfl rfl rfl (hts _ (kx_w iw_3)) (hts _ (kx_w iw_419)) (by decide +kernel) ⟨Nat.le_of_ble_eq_true rfl, Nat.le_of_ble_eq_true rfl⟩), (hts _ (kx_w iw_420)), (hts _ (kx_w iw_421))⟩ (kx_preV hN hK hP hD [1] (by decide) rfl 1 rfl rfl) rfl rfl hl.1 rfl (lv_room (Nat.le_of_ble_eq_true rfl)) d_D_trace_4 ⟨Nat.le_of_ble_eq_true rfl, Nat.le_of_ble_eq_true rfl⟩) (fun r4 hw => ?_)
  refine lv_if_eq (tgt := 26) hx hb d_D_trace_7 rfl (fun hc => ?_) (fun hc => ?_)
  ·
    have hw := hw.1 hc
    exact kt_throw hfl hx hb hown hT (hts _ (kx_w iw_351)) (hts _ (kx_w iw_11)) hnoh hlocks (by rw [hml]; exact hl.1) d_D_trace_26 d_D_trace_29 d_D_trace_30 d_D_trace_33 (Nat.le_of_ble_eq_true rfl) (Nat.le_of_ble_eq_true rfl) (Nat.le_of_ble_eq_true rfl) (Nat.le_of_ble_eq_true rfl) hw
  ·
    have hw := hw.2 hc
    refine lv_aload_n hx hb d_D_trace_10 rfl (lv_at hl 0 rfl) ?_
    refine lv_iload_n hx hb d_D_trace_11 rfl (lv_at hl 1 rfl) ?_
    refine kx_callpi (va_runV (As := [.int p0]) (rest := []) ⟨hx, hb, hml, hown, hts⟩ (k_D_isAccount l dC dI cI cL cZ h0 a_currencyOf a_sortOf a_closingRates a_averageRates a_sums a_historicAmounts a_holdings a_report v_companies v_accounts v_reserve s.heap.size p0 hw) ⟨(callB_of 1 hts (kx_good iw_201) rfl rfl rfl (hts _ (kx_w iw_1)) (hts _ (kx_w iw_198)) (by decide +kernel) ⟨Nat.le_of_ble_eq_true rfl, Nat.le_of_ble_eq_true rfl⟩), (hts _ (kx_w iw_200)), (hts _ (kx_w sl_D_isAccount))⟩ (kx_preV hN hK hP hD [0] (by decide) rfl 0 rfl rfl) rfl rfl hl.1 rfl (lv_room (Nat.le_of_ble_eq_true rfl)) d_D_trace_12 ⟨Nat.le_of_ble_eq_true rfl, Nat.le_of_ble_eq_true rfl⟩) (fun r12 hw => ?_)
    refine lv_if_eq (tgt := 26) hx hb d_D_trace_15 rfl (fun hc => ?_) (fun hc => ?_)
    ·
      have hw := hw.1 hc
      exact kt_throw hfl hx hb hown hT (hts _ (kx_w iw_351)) (hts _ (kx_w iw_11)) hnoh hlocks (by rw [hml]; exact hl.1) d_D_trace_26 d_D_trace_29 d_D_trace_30 d_D_trace_33 (Nat.le_of_ble_eq_true rfl) (Nat.le_of_ble_eq_true rfl) (Nat.le_of_ble_eq_true rfl) (Nat.le_of_ble_eq_true rfl) hw
    ·
      have hw := hw.2 hc
      refine lv_aload_n hx hb d_D_trace_18 rfl (lv_at hl 0 rfl) ?_
      refine lv_iload_n hx hb d_D_trace_19 rfl (lv_at hl 2 rfl) ?_
      refine kx_callpi (va_runV (As := [.int p1]) (rest := []) ⟨hx, hb, hml, hown, hts⟩ (k_D_isCompany l dC dI cI cL cZ h0 a_currencyOf a_sortOf a_closingRates a_averageRates a_sums a_historicAmounts a_holdings a_report v_companies v_accounts v_reserve s.heap.size p1 hw) ⟨(callB_of 1 hts (kx_good iw_136) rfl rfl rfl (hts _ (kx_w iw_1)) (hts _ (kx_w iw_133)) (by decide +kernel) ⟨Nat.le_of_ble_eq_true rfl, Nat.le_of_ble_eq_true rfl⟩), (hts _ (kx_w iw_135)), (hts _ (kx_w sl_D_isCompany))⟩ (kx_preV hN hK hP hD [0] (by decide) rfl 0 rfl rfl) rfl rfl hl.1 rfl (lv_room (Nat.le_of_ble_eq_true rfl)) d_D_trace_20 ⟨Nat.le_of_ble_eq_true rfl, Nat.le_of_ble_eq_true rfl⟩) (fun r20 hw => ?_)
      refine lv_if_ne (tgt := 34) hx hb d_D_trace_23 rfl (fun hc => ?_) (fun hc => ?_)
      ·
        have hw := hw.1 hc
        refine lv_iload_n hx hb d_D_trace_34 rfl (lv_at hl 3 rfl) ?_
        refine lv_if_lt (tgt := 43) hx hb d_D_trace_35 rfl (fun hc => ?_) (fun hc => ?_)
        ·
          have hw := hw.1 hc
          exact kt_throw hfl hx hb hown hT (hts _ (kx_w iw_351)) (hts _ (kx_w iw_11)) hnoh hlocks (by rw [hml]; exact hl.1) d_D_trace_43 d_D_trace_46 d_D_trace_47 d_D_trace_50 (Nat.le_of_ble_eq_true rfl) (Nat.le_of_ble_eq_true rfl) (Nat.le_of_ble_eq_true rfl) (Nat.le_of_ble_eq_true rfl) hw
        ·
          have hw := hw.2 hc
          refine lv_iload_n hx hb d_D_trace_38 rfl (lv_at hl 3 rfl) ?_
          refine lv_iconst (v := 3) hx hb d_D_trace_39 (by decide) ?_
          refine lv_icmp_lt (tgt := 51) hx hb d_D_trace_40 rfl (fun hc => ?_) (fun hc => ?_)
          ·
            have hw := hw.1 hc
            refine lv_aload_n hx hb d_D_trace_51 rfl (lv_at hl 0 rfl) ?_
            refine va_get (D := (dC, dI)) (ci := 2) (v := .ref a_report) (C := R_D) (T := F_D) (N := 11) hx hb hts (kx_in in_D) hown hK hP 0 rfl rfl 10 (by decide) (hts _ (kx_w iw_94)) (fun _ h9 => h9) rfl d_D_trace_52 ?_
            refine lv_iload_n hx hb d_D_trace_55 rfl (lv_at hl 3 rfl) ?_
            refine lv_iload_n hx hb d_D_trace_56 rfl (lv_at hl 2 rfl) ?_
            refine lv_iload_n hx hb d_D_trace_57 rfl (lv_at hl 1 rfl) ?_
            refine kx_callpl (va_runV (As := [.int p2, .int p1, .int p0]) (rest := []) ⟨hx, hb, hml, hown, hts⟩ (k_R_stepAmount l dC dI cI cL cZ a_report a_report_amounts a_report_stepAmounts a_report_groupAmounts a_report_outsidersCredits a_report_openPlaces v_report_made v_report_companies v_report_accounts v_report_open v_report_stepAmounts s.heap.size p2 p1 p0 hw) ⟨(callB_of 3 hts (kx_good iw_319) rfl rfl rfl (hts _ (kx_w iw_3)) (hts _ (kx_w iw_316)) (by decide +kernel) ⟨Nat.le_of_ble_eq_true rfl, Nat.le_of_ble_eq_true rfl⟩), (hts _ (kx_w iw_317)), (hts _ (kx_w iw_318))⟩ (kx_preV hN hK hP hD [1, 2] (by decide) rfl 1 rfl rfl) rfl rfl hl.1 rfl (lv_room (Nat.le_of_ble_eq_true rfl)) d_D_trace_58 ⟨Nat.le_of_ble_eq_true rfl, Nat.le_of_ble_eq_true rfl⟩) (fun r58 hw => ?_)
            exact kt_ret hx hb hr hlocks hw d_D_trace_61
          ·
            have hw := hw.2 hc
            exact kt_throw hfl hx hb hown hT (hts _ (kx_w iw_351)) (hts _ (kx_w iw_11)) hnoh hlocks (by rw [hml]; exact hl.1) d_D_trace_43 d_D_trace_46 d_D_trace_47 d_D_trace_50 (Nat.le_of_ble_eq_true rfl) (Nat.le_of_ble_eq_true rfl) (Nat.le_of_ble_eq_true rfl) (Nat.le_of_ble_eq_true rfl) hw
      ·
        have hw := hw.2 hc
        exact kt_throw hfl hx hb hown hT (hts _ (kx_w iw_351)) (hts _ (kx_w iw_11)) hnoh hlocks (by rw [hml]; exact hl.1) d_D_trace_26 d_D_trace_29 d_D_trace_30 d_D_trace_33 (Nat.le_of_ble_eq_true rfl) (Nat.le_of_ble_eq_true rfl) (Nat.le_of_ble_eq_true rfl) (Nat.le_of_ble_eq_true rfl) hw
/-! ConsolidationDesk.minority(I)J -/
abbrev y_D_minority : MethodName := ⟨"ConsolidationDesk", "minority", "(I)J"⟩
theorem d_D_minority_0 : decode prog_1_method_15_code 0 = .ok (.aload_n 0, 1) := by decide +kernel
theorem d_D_minority_1 : decode prog_1_method_15_code 1 = .ok (.getfield 50, 3) := by decide +kernel
theorem d_D_minority_4 : decode prog_1_method_15_code 4 = .ok (.invokevirtual 125, 3) := by decide +kernel
theorem d_D_minority_7 : decode prog_1_method_15_code 7 = .ok (.ifCond .eq 11, 3) := by decide +kernel
theorem d_D_minority_10 : decode prog_1_method_15_code 10 = .ok (.aload_n 0, 1) := by decide +kernel
theorem d_D_minority_11 : decode prog_1_method_15_code 11 = .ok (.iload_n 1, 1) := by decide +kernel
theorem d_D_minority_12 : decode prog_1_method_15_code 12 = .ok (.invokevirtual 58, 3) := by decide +kernel
theorem d_D_minority_15 : decode prog_1_method_15_code 15 = .ok (.ifCond .ne 11, 3) := by decide +kernel
theorem d_D_minority_18 : decode prog_1_method_15_code 18 = .ok (.new 86, 3) := by decide +kernel
theorem d_D_minority_21 : decode prog_1_method_15_code 21 = .ok (.dup, 1) := by decide +kernel
theorem d_D_minority_22 : decode prog_1_method_15_code 22 = .ok (.invokespecial 88, 3) := by decide +kernel
theorem d_D_minority_25 : decode prog_1_method_15_code 25 = .ok (.athrow, 1) := by decide +kernel
theorem d_D_minority_26 : decode prog_1_method_15_code 26 = .ok (.aload_n 0, 1) := by decide +kernel
theorem d_D_minority_27 : decode prog_1_method_15_code 27 = .ok (.getfield 50, 3) := by decide +kernel
theorem d_D_minority_30 : decode prog_1_method_15_code 30 = .ok (.iload_n 1, 1) := by decide +kernel
theorem d_D_minority_31 : decode prog_1_method_15_code 31 = .ok (.invokevirtual 136, 3) := by decide +kernel
theorem d_D_minority_34 : decode prog_1_method_15_code 34 = .ok (.lreturn, 1) := by decide +kernel
abbrev WS_D_minority (cI cL cZ : ClassId) (h0 a_currencyOf a_sortOf a_closingRates a_averageRates a_sums a_historicAmounts a_holdings a_report a_report_amounts a_report_stepAmounts a_report_groupAmounts a_report_outsidersCredits a_report_openPlaces : Nat) (v_companies : Int32) (v_accounts : Int32) (v_reserve : Int32) (v_report_made : Int32) (v_report_companies : Int32) (v_report_accounts : Int32) (v_report_open : Int32) (v_report_outsidersCredits : (Nat → Int64)) : va_W := [(h0, .inr (2, [.int v_companies, .ref a_currencyOf, .int v_accounts, .ref a_sortOf, .int v_reserve, .ref a_closingRates, .ref a_averageRates, .ref a_sums, .ref a_historicAmounts, .ref a_holdings, .ref a_report])), (a_report, .inr (1, [.int v_report_made, .int v_report_companies, .int v_report_accounts, .ref a_report_amounts, .ref a_report_stepAmounts, .ref a_report_groupAmounts, .ref a_report_outsidersCredits, .ref a_report_openPlaces, .int v_report_open])), (a_report_outsidersCredits, .inl (cL, 12, .inr (.inl v_report_outsidersCredits)))]
def wp_D_minority (p0 : Int32) (v_companies : Int32) (v_report_made : Int32) (v_report_outsidersCredits : (Nat → Int64)) (post : Int64 → Unit → Prop) (thr : Prop) : Prop := (wp_R_isMade v_report_made (fun (r4 : Int32) (u4 : Unit) => ((r4 = 0 → thr) ∧ (¬ r4 = 0 → (wp_D_isCompany p0 v_companies (fun (r12 : Int32) (u12 : Unit) => ((¬ r12 = 0 → (wp_R_outsidersCredit p0 v_report_outsidersCredits (fun (r31 : Int64) (u31 : Unit) => post r31 ()))) ∧ (r12 = 0 → thr))))))))
abbrev ws_D_minority : List Cond := .code y_D_minority prog_1_method_15_code 2 (some .long) :: kxW
abbrev rt_D_minority : Room := { frames := 6, cells := 1, slots := 6, locals := 90 }
set_option maxHeartbeats 4000000 in
set_option maxRecDepth 100000 in
theorem t_D_minority (l : Launch) (hfl : l.flags = flags0) (dC : Nat → ClassId) (dI : Nat → Nat → Nat) (cI cL cZ : ClassId) (h0 a_currencyOf a_sortOf a_closingRates a_averageRates a_sums a_historicAmounts a_holdings a_report a_report_amounts a_report_stepAmounts a_report_groupAmounts a_report_outsidersCredits a_report_openPlaces : Nat) (v_companies : Int32) (v_accounts : Int32) (v_reserve : Int32) (v_report_made : Int32) (v_report_companies : Int32) (v_report_accounts : Int32) (v_report_open : Int32) (v_report_outsidersCredits : (Nat → Int64)) (sz : Nat) (p0 : Int32) {post : Int64 → Unit → Prop} {thr : Prop} (hw : wp_D_minority p0 v_companies v_report_made v_report_outsidersCredits post thr) : kt_Met l y_D_minority ws_D_minority rt_D_minority (fun v U => kx_Pc (dC, dI) classes (kx_T cI cL cZ) (WS_D_minority cI cL cZ h0 a_currencyOf a_sortOf a_closingRates a_averageRates a_sums a_historicAmounts a_holdings a_report a_report_amounts a_report_stepAmounts a_report_groupAmounts a_report_outsidersCredits a_report_openPlaces v_companies v_accounts v_reserve v_report_made v_report_companies v_report_accounts v_report_open v_report_outsidersCredits) sz [.ref h0, .int p0] v U ∧ kt_N U) post thr := by
  refine kt_ofW (cc := prog_1_method_15_code) (maxL := 2) (ret := (some .long)) (by decide) rfl ?_
  intro p e s m args below meth c s₁ B hml hv
  obtain ⟨⟨rfl, hsz, hP, hK, hD, hN⟩, hT⟩ := hv
  have hx := B.exec
  have hb := B.bytes
  have hr := B.returns
  have hts := atoms_spec (ws := ws_D_minority) B.pre
  have hown : s.vm.findClass R_D = some m.cls := findClass_of_methodNamed B.named
  have hlocks := B.notSynchronized
  subst hsz
  have hP : va_P (dC, dI) classes (WS_D_minority cI cL cZ h0 a_currencyOf a_sortOf a_closingRates a_averageRates a_sums a_historicAmounts a_holdings a_report a_report_amounts a_report_stepAmounts a_report_groupAmounts a_report_outsidersCredits a_report_openPlaces v_companies v_accounts v_reserve v_report_made v_report_companies v_report_accounts v_report_open v_report_outsidersCredits) s.heap := hP
  have hl := lv_entry ([.ref h0, .int p0]) (n := 2) (Nat.le_of_ble_eq_true rfl)
  rw [lg_entry_eq]
  generalize (lg_sl ([.ref h0, .int p0]) ++ List.replicate (2 - (lg_sl ([.ref h0, .int p0])).length) Slot.unset).toArray = ls at hl ⊢
  have hl : lv_has ls 2 [(0, .ref h0), (1, .int p0)] := hl
  unfold wp_D_minority at hw
  have hnoh := B.noHandlers (hts _ List.mem_cons_self)
  refine lv_aload_n hx hb d_D_minority_0 rfl (lv_at hl 0 rfl) ?_
  refine va_get (D := (dC, dI)) (ci := 2) (v := .ref a_report) (C := R_D) (T := F_D) (N := 11) hx hb hts (kx_in in_D) hown hK hP 0 rfl rfl 10 (by decide) (hts _ (kx_w iw_94)) (fun _ h9 => h9) rfl d_D_minority_1 ?_
  refine kx_callpi (va_runV (As := []) (rest := []) ⟨hx, hb, hml, hown, hts⟩ (k_R_isMade l dC dI cI cL cZ a_report a_report_amounts a_report_stepAmounts a_report_groupAmounts a_report_outsidersCredits a_report_openPlaces v_report_made v_report_companies v_report_accounts v_report_open s.heap.size  hw) ⟨(callB_of 0 hts (kx_good iw_422) rfl rfl rfl (hts _ (kx_w iw_3)) (hts _ (kx_w iw_419)) (by decide +kernel) ⟨Nat.le_of_ble_eq_true rfl, Nat.le_of_ble_eq_true rfl⟩), (hts _ (kx_w iw_420)), (hts _ (kx_w iw_421))⟩ (kx_preV hN hK hP hD [1] (by decide) rfl 1 rfl rfl) rfl rfl hl.1 rfl (lv_room (Nat.le_of_ble_eq_true rfl)) d_D_minority_4 ⟨Nat.le_of_ble_eq_true rfl, Nat.le_of_ble_eq_true rfl⟩) (fun r4 hw => ?_)
  refine lv_if_eq (tgt := 18) hx hb d_D_minority_7 rfl (fun hc => ?_) (fun hc => ?_)
  ·
    have hw := hw.1 hc
    exact kt_throw hfl hx hb hown hT (hts _ (kx_w iw_351)) (hts _ (kx_w iw_11)) hnoh hlocks (by rw [hml]; exact hl.1) d_D_minority_18 d_D_minority_21 d_D_minority_22 d_D_minority_25 (Nat.le_of_ble_eq_true rfl) (Nat.le_of_ble_eq_true rfl) (Nat.le_of_ble_eq_true rfl) (Nat.le_of_ble_eq_true rfl) hw
  ·
    have hw := hw.2 hc
    refine lv_aload_n hx hb d_D_minority_10 rfl (lv_at hl 0 rfl) ?_
    refine lv_iload_n hx hb d_D_minority_11 rfl (lv_at hl 1 rfl) ?_
    refine kx_callpi (va_runV (As := [.int p0]) (rest := []) ⟨hx, hb, hml, hown, hts⟩ (k_D_isCompany l dC dI cI cL cZ h0 a_currencyOf a_sortOf a_closingRates a_averageRates a_sums a_historicAmounts a_holdings a_report v_companies v_accounts v_reserve s.heap.size p0 hw) ⟨(callB_of 1 hts (kx_good iw_136) rfl rfl rfl (hts _ (kx_w iw_1)) (hts _ (kx_w iw_133)) (by decide +kernel) ⟨Nat.le_of_ble_eq_true rfl, Nat.le_of_ble_eq_true rfl⟩), (hts _ (kx_w iw_135)), (hts _ (kx_w sl_D_isCompany))⟩ (kx_preV hN hK hP hD [0] (by decide) rfl 0 rfl rfl) rfl rfl hl.1 rfl (lv_room (Nat.le_of_ble_eq_true rfl)) d_D_minority_12 ⟨Nat.le_of_ble_eq_true rfl, Nat.le_of_ble_eq_true rfl⟩) (fun r12 hw => ?_)
    refine lv_if_ne (tgt := 26) hx hb d_D_minority_15 rfl (fun hc => ?_) (fun hc => ?_)
    ·
      have hw := hw.1 hc
      refine lv_aload_n hx hb d_D_minority_26 rfl (lv_at hl 0 rfl) ?_
      refine va_get (D := (dC, dI)) (ci := 2) (v := .ref a_report) (C := R_D) (T := F_D) (N := 11) hx hb hts (kx_in in_D) hown hK hP 0 rfl rfl 10 (by decide) (hts _ (kx_w iw_94)) (fun _ h9 => h9) rfl d_D_minority_27 ?_
      refine lv_iload_n hx hb d_D_minority_30 rfl (lv_at hl 1 rfl) ?_
      refine kx_callpl (va_runV (As := [.int p0]) (rest := []) ⟨hx, hb, hml, hown, hts⟩ (k_R_outsidersCredit l dC dI cI cL cZ a_report a_report_amounts a_report_stepAmounts a_report_groupAmounts a_report_outsidersCredits a_report_openPlaces v_report_made v_report_companies v_report_accounts v_report_open v_report_outsidersCredits s.heap.size p0 hw) ⟨(callB_of 1 hts (kx_good iw_444) rfl rfl rfl (hts _ (kx_w iw_3)) (hts _ (kx_w iw_441)) (by decide +kernel) ⟨Nat.le_of_ble_eq_true rfl, Nat.le_of_ble_eq_true rfl⟩), (hts _ (kx_w iw_442)), (hts _ (kx_w iw_443))⟩ (kx_preV hN hK hP hD [1, 2] (by decide) rfl 1 rfl rfl) rfl rfl hl.1 rfl (lv_room (Nat.le_of_ble_eq_true rfl)) d_D_minority_31 ⟨Nat.le_of_ble_eq_true rfl, Nat.le_of_ble_eq_true rfl⟩) (fun r31 hw => ?_)
      exact kt_ret hx hb hr hlocks hw d_D_minority_34
    ·
      have hw := hw.2 hc
      exact kt_throw hfl hx hb hown hT (hts _ (kx_w iw_351)) (hts _ (kx_w iw_11)) hnoh hlocks (by rw [hml]; exact hl.1) d_D_minority_18 d_D_minority_21 d_D_minority_22 d_D_minority_25 (Nat.le_of_ble_eq_true rfl) (Nat.le_of_ble_eq_true rfl) (Nat.le_of_ble_eq_true rfl) (Nat.le_of_ble_eq_true rfl) hw
/-! ConsolidationDesk.openItem(II)J -/
abbrev y_D_openItem : MethodName := ⟨"ConsolidationDesk", "openItem", "(II)J"⟩
theorem d_D_openItem_0 : decode prog_1_method_17_code 0 = .ok (.iload_n 1, 1) := by decide +kernel
theorem d_D_openItem_1 : decode prog_1_method_17_code 1 = .ok (.ifCond .lt 14, 3) := by decide +kernel
theorem d_D_openItem_4 : decode prog_1_method_17_code 4 = .ok (.iload_n 1, 1) := by decide +kernel
theorem d_D_openItem_5 : decode prog_1_method_17_code 5 = .ok (.aload_n 0, 1) := by decide +kernel
theorem d_D_openItem_6 : decode prog_1_method_17_code 6 = .ok (.getfield 50, 3) := by decide +kernel
theorem d_D_openItem_9 : decode prog_1_method_17_code 9 = .ok (.invokevirtual 139, 3) := by decide +kernel
theorem d_D_openItem_12 : decode prog_1_method_17_code 12 = .ok (.if_icmp .lt 11, 3) := by decide +kernel
theorem d_D_openItem_15 : decode prog_1_method_17_code 15 = .ok (.new 86, 3) := by decide +kernel
theorem d_D_openItem_18 : decode prog_1_method_17_code 18 = .ok (.dup, 1) := by decide +kernel
theorem d_D_openItem_19 : decode prog_1_method_17_code 19 = .ok (.invokespecial 88, 3) := by decide +kernel
theorem d_D_openItem_22 : decode prog_1_method_17_code 22 = .ok (.athrow, 1) := by decide +kernel
theorem d_D_openItem_23 : decode prog_1_method_17_code 23 = .ok (.iload_n 2, 1) := by decide +kernel
theorem d_D_openItem_24 : decode prog_1_method_17_code 24 = .ok (.tableswitch 71 0 3 #[32, 42, 52, 62], 32) := by decide +kernel
theorem d_D_openItem_56 : decode prog_1_method_17_code 56 = .ok (.aload_n 0, 1) := by decide +kernel
theorem d_D_openItem_57 : decode prog_1_method_17_code 57 = .ok (.getfield 50, 3) := by decide +kernel
theorem d_D_openItem_60 : decode prog_1_method_17_code 60 = .ok (.iload_n 1, 1) := by decide +kernel
theorem d_D_openItem_61 : decode prog_1_method_17_code 61 = .ok (.invokevirtual 142, 3) := by decide +kernel
theorem d_D_openItem_64 : decode prog_1_method_17_code 64 = .ok (.i2l, 1) := by decide +kernel
theorem d_D_openItem_65 : decode prog_1_method_17_code 65 = .ok (.lreturn, 1) := by decide +kernel
theorem d_D_openItem_66 : decode prog_1_method_17_code 66 = .ok (.aload_n 0, 1) := by decide +kernel
theorem d_D_openItem_67 : decode prog_1_method_17_code 67 = .ok (.getfield 50, 3) := by decide +kernel
theorem d_D_openItem_70 : decode prog_1_method_17_code 70 = .ok (.iload_n 1, 1) := by decide +kernel
theorem d_D_openItem_71 : decode prog_1_method_17_code 71 = .ok (.invokevirtual 146, 3) := by decide +kernel
theorem d_D_openItem_74 : decode prog_1_method_17_code 74 = .ok (.i2l, 1) := by decide +kernel
theorem d_D_openItem_75 : decode prog_1_method_17_code 75 = .ok (.lreturn, 1) := by decide +kernel
theorem d_D_openItem_76 : decode prog_1_method_17_code 76 = .ok (.aload_n 0, 1) := by decide +kernel
theorem d_D_openItem_77 : decode prog_1_method_17_code 77 = .ok (.getfield 50, 3) := by decide +kernel
theorem d_D_openItem_80 : decode prog_1_method_17_code 80 = .ok (.iload_n 1, 1) := by decide +kernel
theorem d_D_openItem_81 : decode prog_1_method_17_code 81 = .ok (.invokevirtual 149, 3) := by decide +kernel
theorem d_D_openItem_84 : decode prog_1_method_17_code 84 = .ok (.i2l, 1) := by decide +kernel
theorem d_D_openItem_85 : decode prog_1_method_17_code 85 = .ok (.lreturn, 1) := by decide +kernel
theorem d_D_openItem_86 : decode prog_1_method_17_code 86 = .ok (.aload_n 0, 1) := by decide +kernel
theorem d_D_openItem_87 : decode prog_1_method_17_code 87 = .ok (.getfield 50, 3) := by decide +kernel
theorem d_D_openItem_90 : decode prog_1_method_17_code 90 = .ok (.iload_n 1, 1) := by decide +kernel
theorem d_D_openItem_91 : decode prog_1_method_17_code 91 = .ok (.invokevirtual 152, 3) := by decide +kernel
theorem d_D_openItem_94 : decode prog_1_method_17_code 94 = .ok (.lreturn, 1) := by decide +kernel
theorem d_D_openItem_95 : decode prog_1_method_17_code 95 = .ok (.new 86, 3) := by decide +kernel
theorem d_D_openItem_98 : decode prog_1_method_17_code 98 = .ok (.dup, 1) := by decide +kernel
theorem d_D_openItem_99 : decode prog_1_method_17_code 99 = .ok (.invokespecial 88, 3) := by decide +kernel
theorem d_D_openItem_102 : decode prog_1_method_17_code 102 = .ok (.athrow, 1) := by decide +kernel
abbrev WS_D_openItem (cI cL cZ : ClassId) (h0 a_currencyOf a_sortOf a_closingRates a_averageRates a_sums a_historicAmounts a_holdings a_report a_report_amounts a_report_stepAmounts a_report_groupAmounts a_report_outsidersCredits a_report_openPlaces : Nat) (v_companies : Int32) (v_accounts : Int32) (v_reserve : Int32) (v_report_made : Int32) (v_report_companies : Int32) (v_report_accounts : Int32) (v_report_open : Int32) (v_report_amounts : (Nat → Int64)) (v_report_openPlaces : (Nat → Int32)) : va_W := [(h0, .inr (2, [.int v_companies, .ref a_currencyOf, .int v_accounts, .ref a_sortOf, .int v_reserve, .ref a_closingRates, .ref a_averageRates, .ref a_sums, .ref a_historicAmounts, .ref a_holdings, .ref a_report])), (a_report, .inr (1, [.int v_report_made, .int v_report_companies, .int v_report_accounts, .ref a_report_amounts, .ref a_report_stepAmounts, .ref a_report_groupAmounts, .ref a_report_outsidersCredits, .ref a_report_openPlaces, .int v_report_open])), (a_report_amounts, .inl (cL, 1872, .inr (.inl v_report_amounts))), (a_report_openPlaces, .inl (cI, 1584, .inl v_report_openPlaces))]
def wp_D_openItem (p0 : Int32) (p1 : Int32) (v_report_open : Int32) (v_report_amounts : (Nat → Int64)) (v_report_openPlaces : (Nat → Int32)) (post : Int64 → Unit → Prop) (thr : Prop) : Prop := ((p0 < 0 → thr) ∧ (¬ p0 < 0 → (wp_R_openCount v_report_open (fun (r9 : Int32) (u9 : Unit) => ((p0 < r9 → ((p1 = 0 → (wp_R_openCompany p0 v_report_openPlaces (fun (r61 : Int32) (u61 : Unit) => post r61.toInt64 ()))) ∧ (p1 = 1 → (wp_R_openPartner p0 v_report_openPlaces (fun (r71 : Int32) (u71 : Unit) => post r71.toInt64 ()))) ∧ (p1 = 2 → (wp_R_openAccount p0 v_report_openPlaces (fun (r81 : Int32) (u81 : Unit) => post r81.toInt64 ()))) ∧ (p1 = 3 → (wp_R_openAmount p0 v_report_amounts v_report_openPlaces (fun (r91 : Int64) (u91 : Unit) => post r91 ()))) ∧ (¬ p1 = 0 → ¬ p1 = 1 → ¬ p1 = 2 → ¬ p1 = 3 → thr))) ∧ (¬ p0 < r9 → thr))))))
abbrev ws_D_openItem : List Cond := .code y_D_openItem prog_1_method_17_code 3 (some .long) :: kxW
abbrev rt_D_openItem : Room := { frames := 6, cells := 1, slots := 6, locals := 90 }
set_option maxHeartbeats 4000000 in
set_option maxRecDepth 100000 in
theorem t_D_openItem (l : Launch) (hfl : l.flags = flags0) (dC : Nat → ClassId) (dI : Nat → Nat → Nat) (cI cL cZ : ClassId) (h0 a_currencyOf a_sortOf a_closingRates a_averageRates a_sums a_historicAmounts a_holdings a_report a_report_amounts a_report_stepAmounts a_report_groupAmounts a_report_outsidersCredits a_report_openPlaces : Nat) (v_companies : Int32) (v_accounts : Int32) (v_reserve : Int32) (v_report_made : Int32) (v_report_companies : Int32) (v_report_accounts : Int32) (v_report_open : Int32) (v_report_amounts : (Nat → Int64)) (v_report_openPlaces : (Nat → Int32)) (sz : Nat) (p0 : Int32) (p1 : Int32) {post : Int64 → Unit → Prop} {thr : Prop} (hw : wp_D_openItem p0 p1 v_report_open v_report_amounts v_report_openPlaces post thr) : kt_Met l y_D_openItem ws_D_openItem rt_D_openItem (fun v U => kx_Pc (dC, dI) classes (kx_T cI cL cZ) (WS_D_openItem cI cL cZ h0 a_currencyOf a_sortOf a_closingRates a_averageRates a_sums a_historicAmounts a_holdings a_report a_report_amounts a_report_stepAmounts a_report_groupAmounts a_report_outsidersCredits a_report_openPlaces v_companies v_accounts v_reserve v_report_made v_report_companies v_report_accounts v_report_open v_report_amounts v_report_openPlaces) sz [.ref h0, .int p0, .int p1] v U ∧ kt_N U) post thr := by
  refine kt_ofW (cc := prog_1_method_17_code) (maxL := 3) (ret := (some .long)) (by decide) rfl ?_
  intro p e s m args below meth c s₁ B hml hv
  obtain ⟨⟨rfl, hsz, hP, hK, hD, hN⟩, hT⟩ := hv
  have hx := B.exec
  have hb := B.bytes
  have hr := B.returns
  have hts := atoms_spec (ws := ws_D_openItem) B.pre
  have hown : s.vm.findClass R_D = some m.cls := findClass_of_methodNamed B.named
  have hlocks := B.notSynchronized
  subst hsz
  have hP : va_P (dC, dI) classes (WS_D_openItem cI cL cZ h0 a_currencyOf a_sortOf a_closingRates a_averageRates a_sums a_historicAmounts a_holdings a_report a_report_amounts a_report_stepAmounts a_report_groupAmounts a_report_outsidersCredits a_report_openPlaces v_companies v_accounts v_reserve v_report_made v_report_companies v_report_accounts v_report_open v_report_amounts v_report_openPlaces) s.heap := hP
  have hl := lv_entry ([.ref h0, .int p0, .int p1]) (n := 3) (Nat.le_of_ble_eq_true rfl)
  rw [lg_entry_eq]
  generalize (lg_sl ([.ref h0, .int p0, .int p1]) ++ List.replicate (3 - (lg_sl ([.ref h0, .int p0, .int p1])).length) Slot.unset).toArray = ls at hl ⊢
  have hl : lv_has ls 3 [(0, .ref h0), (1, .int p0), (2, .int p1)] := hl
  unfold wp_D_openItem at hw
  have hnoh := B.noHandlers (hts _ List.mem_cons_self)
  refine lv_iload_n hx hb d_D_openItem_0 rfl (lv_at hl 1 rfl) ?_
  refine lv_if_lt (tgt := 15) hx hb d_D_openItem_1 rfl (fun hc => ?_) (fun hc => ?_)
  ·
    have hw := hw.1 hc
    exact kt_throw hfl hx hb hown hT (hts _ (kx_w iw_351)) (hts _ (kx_w iw_11)) hnoh hlocks (by rw [hml]; exact hl.1) d_D_openItem_15 d_D_openItem_18 d_D_openItem_19 d_D_openItem_22 (Nat.le_of_ble_eq_true rfl) (Nat.le_of_ble_eq_true rfl) (Nat.le_of_ble_eq_true rfl) (Nat.le_of_ble_eq_true rfl) hw
  ·
    have hw := hw.2 hc
    refine lv_iload_n hx hb d_D_openItem_4 rfl (lv_at hl 1 rfl) ?_
    refine lv_aload_n hx hb d_D_openItem_5 rfl (lv_at hl 0 rfl) ?_
    refine va_get (D := (dC, dI)) (ci := 2) (v := .ref a_report) (C := R_D) (T := F_D) (N := 11) hx hb hts (kx_in in_D) hown hK hP 0 rfl rfl 10 (by decide) (hts _ (kx_w iw_94)) (fun _ h9 => h9) rfl d_D_openItem_6 ?_
    refine kx_callpi (va_runV (As := []) (rest := [.int p0]) ⟨hx, hb, hml, hown, hts⟩ (k_R_openCount l dC dI cI cL cZ a_report a_report_amounts a_report_stepAmounts a_report_groupAmounts a_report_outsidersCredits a_report_openPlaces v_report_made v_report_companies v_report_accounts v_report_open s.heap.size  hw) ⟨(callB_of 0 hts (kx_good iw_342) rfl rfl rfl (hts _ (kx_w iw_3)) (hts _ (kx_w iw_339)) (by decide +kernel) ⟨Nat.le_of_ble_eq_true rfl, Nat.le_of_ble_eq_true rfl⟩), (hts _ (kx_w iw_340)), (hts _ (kx_w iw_341))⟩ (kx_preV hN hK hP hD [1] (by decide) rfl 1 rfl rfl) rfl rfl hl.1 rfl (lv_room (Nat.le_of_ble_eq_true rfl)) d_D_openItem_9 ⟨Nat.le_of_ble_eq_true rfl, Nat.le_of_ble_eq_true rfl⟩) (fun r9 hw => ?_)
    refine lv_icmp_lt (tgt := 23) hx hb d_D_openItem_12 rfl (fun hc => ?_) (fun hc => ?_)
    ·
      have hw := hw.1 hc
      refine lv_iload_n hx hb d_D_openItem_23 rfl (lv_at hl 2 rfl) ?_
      by_cases h24_0 : p1 = 0
      ·
        have hw := hw.1 h24_0
        refine lv_tableIn (tgt := 56) (off := 32) hx hb d_D_openItem_24 (by rw [h24_0]; decide) (by rw [h24_0]; decide) (by rw [h24_0]; rfl) rfl ?_
        refine lv_aload_n hx hb d_D_openItem_56 rfl (lv_at hl 0 rfl) ?_
        refine va_get (D := (dC, dI)) (ci := 2) (v := .ref a_report) (C := R_D) (T := F_D) (N := 11) hx hb hts (kx_in in_D) hown hK hP 0 rfl rfl 10 (by decide) (hts _ (kx_w iw_94)) (fun _ h9 => h9) rfl d_D_openItem_57 ?_
        refine lv_iload_n hx hb d_D_openItem_60 rfl (lv_at hl 1 rfl) ?_
        refine kx_callpi (va_runV (As := [.int p0]) (rest := []) ⟨hx, hb, hml, hown, hts⟩ (k_R_openCompany l dC dI cI cL cZ a_report a_report_amounts a_report_stepAmounts a_report_groupAmounts a_report_outsidersCredits a_report_openPlaces v_report_made v_report_companies v_report_accounts v_report_open v_report_openPlaces s.heap.size p0 hw) ⟨(callB_of 1 hts (kx_good iw_455) rfl rfl rfl (hts _ (kx_w iw_3)) (hts _ (kx_w iw_452)) (by decide +kernel) ⟨Nat.le_of_ble_eq_true rfl, Nat.le_of_ble_eq_true rfl⟩), (hts _ (kx_w iw_453)), (hts _ (kx_w iw_454))⟩ (kx_preV hN hK hP hD [1, 3] (by decide) rfl 1 rfl rfl) rfl rfl hl.1 rfl (lv_room (Nat.le_of_ble_eq_true rfl)) d_D_openItem_61 ⟨Nat.le_of_ble_eq_true rfl, Nat.le_of_ble_eq_true rfl⟩) (fun r61 hw => ?_)
        refine lv_i2l hx hb d_D_openItem_64 rfl ?_
        exact kt_ret hx hb hr hlocks hw d_D_openItem_65
      by_cases h24_1 : p1 = 1
      ·
        have hw := hw.2.1 h24_1
        refine lv_tableIn (tgt := 66) (off := 42) hx hb d_D_openItem_24 (by rw [h24_1]; decide) (by rw [h24_1]; decide) (by rw [h24_1]; rfl) rfl ?_
        refine lv_aload_n hx hb d_D_openItem_66 rfl (lv_at hl 0 rfl) ?_
        refine va_get (D := (dC, dI)) (ci := 2) (v := .ref a_report) (C := R_D) (T := F_D) (N := 11) hx hb hts (kx_in in_D) hown hK hP 0 rfl rfl 10 (by decide) (hts _ (kx_w iw_94)) (fun _ h9 => h9) rfl d_D_openItem_67 ?_
        refine lv_iload_n hx hb d_D_openItem_70 rfl (lv_at hl 1 rfl) ?_
        refine kx_callpi (va_runV (As := [.int p0]) (rest := []) ⟨hx, hb, hml, hown, hts⟩ (k_R_openPartner l dC dI cI cL cZ a_report a_report_amounts a_report_stepAmounts a_report_groupAmounts a_report_outsidersCredits a_report_openPlaces v_report_made v_report_companies v_report_accounts v_report_open v_report_openPlaces s.heap.size p0 hw) ⟨(callB_of 1 hts (kx_good iw_459) rfl rfl rfl (hts _ (kx_w iw_3)) (hts _ (kx_w iw_456)) (by decide +kernel) ⟨Nat.le_of_ble_eq_true rfl, Nat.le_of_ble_eq_true rfl⟩), (hts _ (kx_w iw_457)), (hts _ (kx_w iw_458))⟩ (kx_preV hN hK hP hD [1, 3] (by decide) rfl 1 rfl rfl) rfl rfl hl.1 rfl (lv_room (Nat.le_of_ble_eq_true rfl)) d_D_openItem_71 ⟨Nat.le_of_ble_eq_true rfl, Nat.le_of_ble_eq_true rfl⟩) (fun r71 hw => ?_)
        refine lv_i2l hx hb d_D_openItem_74 rfl ?_
        exact kt_ret hx hb hr hlocks hw d_D_openItem_75
      by_cases h24_2 : p1 = 2
      ·
        have hw := hw.2.2.1 h24_2
        refine lv_tableIn (tgt := 76) (off := 52) hx hb d_D_openItem_24 (by rw [h24_2]; decide) (by rw [h24_2]; decide) (by rw [h24_2]; rfl) rfl ?_
        refine lv_aload_n hx hb d_D_openItem_76 rfl (lv_at hl 0 rfl) ?_
        refine va_get (D := (dC, dI)) (ci := 2) (v := .ref a_report) (C := R_D) (T := F_D) (N := 11) hx hb hts (kx_in in_D) hown hK hP 0 rfl rfl 10 (by decide) (hts _ (kx_w iw_94)) (fun _ h9 => h9) rfl d_D_openItem_77 ?_
        refine lv_iload_n hx hb d_D_openItem_80 rfl (lv_at hl 1 rfl) ?_
        refine kx_callpi (va_runV (As := [.int p0]) (rest := []) ⟨hx, hb, hml, hown, hts⟩ (k_R_openAccount l dC dI cI cL cZ a_report a_report_amounts a_report_stepAmounts a_report_groupAmounts a_report_outsidersCredits a_report_openPlaces v_report_made v_report_companies v_report_accounts v_report_open v_report_openPlaces s.heap.size p0 hw) ⟨(callB_of 1 hts (kx_good iw_463) rfl rfl rfl (hts _ (kx_w iw_3)) (hts _ (kx_w iw_460)) (by decide +kernel) ⟨Nat.le_of_ble_eq_true rfl, Nat.le_of_ble_eq_true rfl⟩), (hts _ (kx_w iw_461)), (hts _ (kx_w iw_462))⟩ (kx_preV hN hK hP hD [1, 3] (by decide) rfl 1 rfl rfl) rfl rfl hl.1 rfl (lv_room (Nat.le_of_ble_eq_true rfl)) d_D_openItem_81 ⟨Nat.le_of_ble_eq_true rfl, Nat.le_of_ble_eq_true rfl⟩) (fun r81 hw => ?_)
        refine lv_i2l hx hb d_D_openItem_84 rfl ?_
        exact kt_ret hx hb hr hlocks hw d_D_openItem_85
      by_cases h24_3 : p1 = 3
      ·
        have hw := hw.2.2.2.1 h24_3
        refine lv_tableIn (tgt := 86) (off := 62) hx hb d_D_openItem_24 (by rw [h24_3]; decide) (by rw [h24_3]; decide) (by rw [h24_3]; rfl) rfl ?_
        refine lv_aload_n hx hb d_D_openItem_86 rfl (lv_at hl 0 rfl) ?_
        refine va_get (D := (dC, dI)) (ci := 2) (v := .ref a_report) (C := R_D) (T := F_D) (N := 11) hx hb hts (kx_in in_D) hown hK hP 0 rfl rfl 10 (by decide) (hts _ (kx_w iw_94)) (fun _ h9 => h9) rfl d_D_openItem_87 ?_
        refine lv_iload_n hx hb d_D_openItem_90 rfl (lv_at hl 1 rfl) ?_
        refine kx_callpl (va_runV (As := [.int p0]) (rest := []) ⟨hx, hb, hml, hown, hts⟩ (k_R_openAmount l dC dI cI cL cZ a_report a_report_amounts a_report_stepAmounts a_report_groupAmounts a_report_outsidersCredits a_report_openPlaces v_report_made v_report_companies v_report_accounts v_report_open v_report_amounts v_report_openPlaces s.heap.size p0 hw) ⟨(callB_of 1 hts (kx_good iw_467) rfl rfl rfl (hts _ (kx_w iw_3)) (hts _ (kx_w iw_464)) (by decide +kernel) ⟨Nat.le_of_ble_eq_true rfl, Nat.le_of_ble_eq_true rfl⟩), (hts _ (kx_w iw_465)), (hts _ (kx_w iw_466))⟩ (kx_preV hN hK hP hD [1, 2, 3] (by decide) rfl 1 rfl rfl) rfl rfl hl.1 rfl (lv_room (Nat.le_of_ble_eq_true rfl)) d_D_openItem_91 ⟨Nat.le_of_ble_eq_true rfl, Nat.le_of_ble_eq_true rfl⟩) (fun r91 hw => ?_)
        exact kt_ret hx hb hr hlocks hw d_D_openItem_94
      have hw := hw.2.2.2.2 h24_0 h24_1 h24_2 h24_3
      refine lv_tableOut (tgt := 95) hx hb d_D_openItem_24 (by have z0 := lv_neT h24_0 (a := 0) (by decide); have z1 := lv_neT h24_1 (a := 1) (by decide); have z2 := lv_neT h24_2 (a := 2) (by decide); have z3 := lv_neT h24_3 (a := 3) (by decide); omega) rfl ?_
      exact kt_throw hfl hx hb hown hT (hts _ (kx_w iw_351)) (hts _ (kx_w iw_11)) hnoh hlocks (by rw [hml]; exact hl.1) d_D_openItem_95 d_D_openItem_98 d_D_openItem_99 d_D_openItem_102 (Nat.le_of_ble_eq_true rfl) (Nat.le_of_ble_eq_true rfl) (Nat.le_of_ble_eq_true rfl) (Nat.le_of_ble_eq_true rfl) hw
    ·
      have hw := hw.2 hc
      exact kt_throw hfl hx hb hown hT (hts _ (kx_w iw_351)) (hts _ (kx_w iw_11)) hnoh hlocks (by rw [hml]; exact hl.1) d_D_openItem_15 d_D_openItem_18 d_D_openItem_19 d_D_openItem_22 (Nat.le_of_ble_eq_true rfl) (Nat.le_of_ble_eq_true rfl) (Nat.le_of_ble_eq_true rfl) (Nat.le_of_ble_eq_true rfl) hw
