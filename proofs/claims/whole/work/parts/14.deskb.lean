/-! ConsolidationDesk.hold(III)Z -/
abbrev y_D_hold : MethodName := ⟨"ConsolidationDesk", "hold", "(III)Z"⟩
theorem d_D_hold_0 : decode prog_1_method_4_code 0 = .ok (.aload_n 0, 1) := by decide +kernel
theorem d_D_hold_1 : decode prog_1_method_4_code 1 = .ok (.iload_n 1, 1) := by decide +kernel
theorem d_D_hold_2 : decode prog_1_method_4_code 2 = .ok (.invokevirtual 58, 3) := by decide +kernel
theorem d_D_hold_5 : decode prog_1_method_4_code 5 = .ok (.ifCond .eq 11, 3) := by decide +kernel
theorem d_D_hold_8 : decode prog_1_method_4_code 8 = .ok (.aload_n 0, 1) := by decide +kernel
theorem d_D_hold_9 : decode prog_1_method_4_code 9 = .ok (.iload_n 2, 1) := by decide +kernel
theorem d_D_hold_10 : decode prog_1_method_4_code 10 = .ok (.invokevirtual 58, 3) := by decide +kernel
theorem d_D_hold_13 : decode prog_1_method_4_code 13 = .ok (.ifCond .ne 5, 3) := by decide +kernel
theorem d_D_hold_16 : decode prog_1_method_4_code 16 = .ok (.iconst 0, 1) := by decide +kernel
theorem d_D_hold_17 : decode prog_1_method_4_code 17 = .ok (.ireturn, 1) := by decide +kernel
theorem d_D_hold_18 : decode prog_1_method_4_code 18 = .ok (.iload_n 3, 1) := by decide +kernel
theorem d_D_hold_19 : decode prog_1_method_4_code 19 = .ok (.ifCond .lt 10, 3) := by decide +kernel
theorem d_D_hold_22 : decode prog_1_method_4_code 22 = .ok (.iload_n 3, 1) := by decide +kernel
theorem d_D_hold_23 : decode prog_1_method_4_code 23 = .ok (.sipush 10000, 3) := by decide +kernel
theorem d_D_hold_26 : decode prog_1_method_4_code 26 = .ok (.if_icmp .le 5, 3) := by decide +kernel
theorem d_D_hold_29 : decode prog_1_method_4_code 29 = .ok (.iconst 0, 1) := by decide +kernel
theorem d_D_hold_30 : decode prog_1_method_4_code 30 = .ok (.ireturn, 1) := by decide +kernel
theorem d_D_hold_31 : decode prog_1_method_4_code 31 = .ok (.aload_n 0, 1) := by decide +kernel
theorem d_D_hold_32 : decode prog_1_method_4_code 32 = .ok (.getfield 43, 3) := by decide +kernel
theorem d_D_hold_35 : decode prog_1_method_4_code 35 = .ok (.iload_n 1, 1) := by decide +kernel
theorem d_D_hold_36 : decode prog_1_method_4_code 36 = .ok (.iload_n 2, 1) := by decide +kernel
theorem d_D_hold_37 : decode prog_1_method_4_code 37 = .ok (.iload_n 3, 1) := by decide +kernel
theorem d_D_hold_38 : decode prog_1_method_4_code 38 = .ok (.invokevirtual 61, 3) := by decide +kernel
theorem d_D_hold_41 : decode prog_1_method_4_code 41 = .ok (.ireturn, 1) := by decide +kernel
abbrev WS_D_hold (cI cL cZ : ClassId)  (h0 a_currencyOf a_sortOf a_closingRates a_averageRates a_sums a_historicAmounts a_holdings a_report a_holdings_parts a_holdings_chainLengths a_holdings_underControl a_holdings_shares a_holdings_chainShares a_holdings_longerChainShares : Nat) (v_companies : Int32) (v_accounts : Int32) (v_reserve : Int32) (v_holdings_parts : (Nat → Int32)) (v_holdings_chainLengths : (Nat → Int32)) (v_holdings_underControl : (Nat → Int32)) (v_holdings_shares : (Nat → Int64)) (v_holdings_chainShares : (Nat → Int64)) (v_holdings_longerChainShares : (Nat → Int64)) : va_W := [(h0, .inr (2, [.int v_companies, .ref a_currencyOf, .int v_accounts, .ref a_sortOf, .int v_reserve, .ref a_closingRates, .ref a_averageRates, .ref a_sums, .ref a_historicAmounts, .ref a_holdings, .ref a_report])), (a_holdings, .inr (0, [.ref a_holdings_parts, .ref a_holdings_chainLengths, .ref a_holdings_underControl, .ref a_holdings_shares, .ref a_holdings_chainShares, .ref a_holdings_longerChainShares])), (a_holdings_parts, .inl (cI, 144, .inl v_holdings_parts)), (a_holdings_chainLengths, .inl (cI, 12, .inl v_holdings_chainLengths)), (a_holdings_underControl, .inl (cZ, 12, .inl v_holdings_underControl)), (a_holdings_shares, .inl (cL, 12, .inr (.inl v_holdings_shares))), (a_holdings_chainShares, .inl (cL, 12, .inr (.inl v_holdings_chainShares))), (a_holdings_longerChainShares, .inl (cL, 12, .inr (.inl v_holdings_longerChainShares)))]
def wp_D_hold  (p0 : Int32) (p1 : Int32) (p2 : Int32) (v_companies : Int32) (v_holdings_parts : (Nat → Int32)) (v_holdings_chainLengths : (Nat → Int32)) (v_holdings_underControl : (Nat → Int32)) (v_holdings_shares : (Nat → Int64)) (v_holdings_chainShares : (Nat → Int64)) (v_holdings_longerChainShares : (Nat → Int64)) (post : Int32 → ((Nat → Int32) × (Nat → Int32) × (Nat → Int32) × (Nat → Int64) × (Nat → Int64) × (Nat → Int64)) → Prop) : Prop := (wp_D_isCompany p0 v_companies (fun (r2 : Int32) (u2 : Unit) => ((r2 = 0 → post 0 (v_holdings_parts, v_holdings_chainLengths, v_holdings_underControl, v_holdings_shares, v_holdings_chainShares, v_holdings_longerChainShares)) ∧ (¬ r2 = 0 → (wp_D_isCompany p1 v_companies (fun (r10 : Int32) (u10 : Unit) => ((¬ r10 = 0 → ((p2 < 0 → post 0 (v_holdings_parts, v_holdings_chainLengths, v_holdings_underControl, v_holdings_shares, v_holdings_chainShares, v_holdings_longerChainShares)) ∧ (¬ p2 < 0 → ((p2 ≤ 10000 → (wp_H_change p0 p1 p2 v_holdings_parts v_holdings_chainLengths v_holdings_underControl v_holdings_shares v_holdings_chainShares v_holdings_longerChainShares (fun (r38 : Int32) (u38 : (Nat → Int32) × (Nat → Int32) × (Nat → Int32) × (Nat → Int64) × (Nat → Int64) × (Nat → Int64)) => (narrow .boolean (.int r38) = .int r38 ∧ post r38 (u38.1, u38.2.1, u38.2.2.1, u38.2.2.2.1, u38.2.2.2.2.1, u38.2.2.2.2.2))))) ∧ (¬ p2 ≤ 10000 → post 0 (v_holdings_parts, v_holdings_chainLengths, v_holdings_underControl, v_holdings_shares, v_holdings_chainShares, v_holdings_longerChainShares)))))) ∧ (r10 = 0 → post 0 (v_holdings_parts, v_holdings_chainLengths, v_holdings_underControl, v_holdings_shares, v_holdings_chainShares, v_holdings_longerChainShares)))))))))
abbrev ws_D_hold : List Cond := .code y_D_hold prog_1_method_4_code 4 (some .boolean) :: kxW
abbrev rm_D_hold : Room := { frames := 4, cells := 0, slots := 0, locals := 132 }
abbrev QC_D_hold (dC : Nat → ClassId) (dI : Nat → Nat → Nat) (cI cL cZ : ClassId) (A : Nat → Prop)  (h0 a_currencyOf a_sortOf a_closingRates a_averageRates a_sums a_historicAmounts a_holdings a_report a_holdings_parts a_holdings_chainLengths a_holdings_underControl a_holdings_shares a_holdings_chainShares a_holdings_longerChainShares : Nat) (v_companies : Int32) (v_accounts : Int32) (v_reserve : Int32) (v_holdings_parts : (Nat → Int32)) (v_holdings_chainLengths : (Nat → Int32)) (v_holdings_underControl : (Nat → Int32)) (v_holdings_shares : (Nat → Int64)) (v_holdings_chainShares : (Nat → Int64)) (v_holdings_longerChainShares : (Nat → Int64)) (post : Int32 → ((Nat → Int32) × (Nat → Int32) × (Nat → Int32) × (Nat → Int64) × (Nat → Int64) × (Nat → Int64)) → Prop) : Array Value → State → Outcome → State → Prop := va_Qi post (fun (u : (Nat → Int32) × (Nat → Int32) × (Nat → Int32) × (Nat → Int64) × (Nat → Int64) × (Nat → Int64)) t => kx_B (dC, dI) classes A (WS_D_hold cI cL cZ h0 a_currencyOf a_sortOf a_closingRates a_averageRates a_sums a_historicAmounts a_holdings a_report a_holdings_parts a_holdings_chainLengths a_holdings_underControl a_holdings_shares a_holdings_chainShares a_holdings_longerChainShares v_companies v_accounts v_reserve u.1 u.2.1 u.2.2.1 u.2.2.2.1 u.2.2.2.2.1 u.2.2.2.2.2) t) A
set_option maxHeartbeats 4000000 in
set_option maxRecDepth 100000 in
theorem c_D_hold (l : Launch) (dC : Nat → ClassId) (dI : Nat → Nat → Nat) (cI cL cZ : ClassId)  (h0 a_currencyOf a_sortOf a_closingRates a_averageRates a_sums a_historicAmounts a_holdings a_report a_holdings_parts a_holdings_chainLengths a_holdings_underControl a_holdings_shares a_holdings_chainShares a_holdings_longerChainShares : Nat) (v_companies : Int32) (v_accounts : Int32) (v_reserve : Int32) (v_holdings_parts : (Nat → Int32)) (v_holdings_chainLengths : (Nat → Int32)) (v_holdings_underControl : (Nat → Int32)) (v_holdings_shares : (Nat → Int64)) (v_holdings_chainShares : (Nat → Int64)) (v_holdings_longerChainShares : (Nat → Int64)) (sz : Nat) (p0 : Int32) (p1 : Int32) (p2 : Int32) {post : Int32 → ((Nat → Int32) × (Nat → Int32) × (Nat → Int32) × (Nat → Int64) × (Nat → Int64) × (Nat → Int64)) → Prop} (hw : wp_D_hold p0 p1 p2 v_companies v_holdings_parts v_holdings_chainLengths v_holdings_underControl v_holdings_shares v_holdings_chainShares v_holdings_longerChainShares post) : Met l y_D_hold ws_D_hold rm_D_hold (kx_Pc (dC, dI) classes (kx_T cI cL cZ) (WS_D_hold cI cL cZ h0 a_currencyOf a_sortOf a_closingRates a_averageRates a_sums a_historicAmounts a_holdings a_report a_holdings_parts a_holdings_chainLengths a_holdings_underControl a_holdings_shares a_holdings_chainShares a_holdings_longerChainShares v_companies v_accounts v_reserve v_holdings_parts v_holdings_chainLengths v_holdings_underControl v_holdings_shares v_holdings_chainShares v_holdings_longerChainShares) sz [.ref h0, .int p0, .int p1, .int p2]) (QC_D_hold dC dI cI cL cZ (va_A (WS_D_hold cI cL cZ h0 a_currencyOf a_sortOf a_closingRates a_averageRates a_sums a_historicAmounts a_holdings a_report a_holdings_parts a_holdings_chainLengths a_holdings_underControl a_holdings_shares a_holdings_chainShares a_holdings_longerChainShares v_companies v_accounts v_reserve v_holdings_parts v_holdings_chainLengths v_holdings_underControl v_holdings_shares v_holdings_chainShares v_holdings_longerChainShares) sz) h0 a_currencyOf a_sortOf a_closingRates a_averageRates a_sums a_historicAmounts a_holdings a_report a_holdings_parts a_holdings_chainLengths a_holdings_underControl a_holdings_shares a_holdings_chainShares a_holdings_longerChainShares v_companies v_accounts v_reserve v_holdings_parts v_holdings_chainLengths v_holdings_underControl v_holdings_shares v_holdings_chainShares v_holdings_longerChainShares post) 0 0 (va_A (WS_D_hold cI cL cZ h0 a_currencyOf a_sortOf a_closingRates a_averageRates a_sums a_historicAmounts a_holdings a_report a_holdings_parts a_holdings_chainLengths a_holdings_underControl a_holdings_shares a_holdings_chainShares a_holdings_longerChainShares v_companies v_accounts v_reserve v_holdings_parts v_holdings_chainLengths v_holdings_underControl v_holdings_shares v_holdings_chainShares v_holdings_longerChainShares) sz) := by
  refine Met.ofW (cc := prog_1_method_4_code) (maxL := 4) (ret := (some .boolean)) (by decide) rfl ?_
  intro p e s m args below meth c s₁ B hml hv
  obtain ⟨rfl, hsz, hP, hK, hD0, hN⟩ := hv
  have hx := B.exec
  have hb := B.bytes
  have hr := B.returns
  have hts := atoms_spec (ws := ws_D_hold) B.pre
  have hown : s.vm.findClass R_D = some m.cls := findClass_of_methodNamed B.named
  have hlocks := B.notSynchronized
  subst hsz
  have hD := hD0.self (sz := s.heap.size)
  generalize hAe : va_A (WS_D_hold cI cL cZ h0 a_currencyOf a_sortOf a_closingRates a_averageRates a_sums a_historicAmounts a_holdings a_report a_holdings_parts a_holdings_chainLengths a_holdings_underControl a_holdings_shares a_holdings_chainShares a_holdings_longerChainShares v_companies v_accounts v_reserve v_holdings_parts v_holdings_chainLengths v_holdings_underControl v_holdings_shares v_holdings_chainShares v_holdings_longerChainShares) s.heap.size = A at hD ⊢
  have hA : ∀ q : Nat, s.heap.size ≤ q → A q := fun q h => by rw [← hAe]; exact Or.inr h
  have hS : va_S A s.heap s.heap [] := va_S.rf
  have hP : va_P (dC, dI) classes (WS_D_hold cI cL cZ h0 a_currencyOf a_sortOf a_closingRates a_averageRates a_sums a_historicAmounts a_holdings a_report a_holdings_parts a_holdings_chainLengths a_holdings_underControl a_holdings_shares a_holdings_chainShares a_holdings_longerChainShares v_companies v_accounts v_reserve v_holdings_parts v_holdings_chainLengths v_holdings_underControl v_holdings_shares v_holdings_chainShares v_holdings_longerChainShares) s.heap := hP
  have hl := lv_entry ([.ref h0, .int p0, .int p1, .int p2]) (n := 4) (Nat.le_of_ble_eq_true rfl)
  rw [lg_entry_eq]
  generalize (lg_sl ([.ref h0, .int p0, .int p1, .int p2]) ++ List.replicate (4 - (lg_sl ([.ref h0, .int p0, .int p1, .int p2])).length) Slot.unset).toArray = ls at hl ⊢
  have hl : lv_has ls 4 [(0, .ref h0), (1, .int p0), (2, .int p1), (3, .int p2)] := hl
  unfold wp_D_hold at hw
  refine (show ∀ (H : Heap) (locs : List Loc), va_P (dC, dI) classes (WS_D_hold cI cL cZ h0 a_currencyOf a_sortOf a_closingRates a_averageRates a_sums a_historicAmounts a_holdings a_report a_holdings_parts a_holdings_chainLengths a_holdings_underControl a_holdings_shares a_holdings_chainShares a_holdings_longerChainShares v_companies v_accounts v_reserve v_holdings_parts v_holdings_chainLengths v_holdings_underControl v_holdings_shares v_holdings_chainShares v_holdings_longerChainShares) H → va_S A s.heap H locs → W p l e (headSpec ws_D_hold rm_D_hold).room s m ([.ref h0, .int p0, .int p1, .int p2] : List Value).toArray below meth c H locs 0 0 (MQ below (QC_D_hold dC dI cI cL cZ A h0 a_currencyOf a_sortOf a_closingRates a_averageRates a_sums a_historicAmounts a_holdings a_report a_holdings_parts a_holdings_chainLengths a_holdings_underControl a_holdings_shares a_holdings_chainShares a_holdings_longerChainShares v_companies v_accounts v_reserve v_holdings_parts v_holdings_chainLengths v_holdings_underControl v_holdings_shares v_holdings_chainShares v_holdings_longerChainShares post) ([.ref h0, .int p0, .int p1, .int p2] : List Value).toArray s 0 0 A) (F0 m 0 ls []) from ?_) _ _ hP hS
  intro H locs hP hS
  refine lv_aload_n hx hb d_D_hold_0 rfl (lv_at hl 0 rfl) ?_
  refine lv_iload_n hx hb d_D_hold_1 rfl (lv_at hl 1 rfl) ?_
  refine kx_calli (ws' := fun u2 => (WS_D_hold cI cL cZ h0 a_currencyOf a_sortOf a_closingRates a_averageRates a_sums a_historicAmounts a_holdings a_report a_holdings_parts a_holdings_chainLengths a_holdings_underControl a_holdings_shares a_holdings_chainShares a_holdings_longerChainShares v_companies v_accounts v_reserve v_holdings_parts v_holdings_chainLengths v_holdings_underControl v_holdings_shares v_holdings_chainShares v_holdings_longerChainShares)) (va_runV (As := [.int p0]) (rest := []) ⟨hx, hb, hml, hown, hts⟩ (c_D_isCompany l dC dI cI cL cZ h0 a_currencyOf a_sortOf a_closingRates a_averageRates a_sums a_historicAmounts a_holdings a_report v_companies v_accounts v_reserve H.size p0 hw) ⟨(callB_of 1 hts (kx_good iw_136) rfl rfl rfl (hts _ (kx_w iw_1)) (hts _ (kx_w iw_133)) (by decide +kernel) ⟨Nat.le_of_ble_eq_true rfl, Nat.le_of_ble_eq_true rfl⟩), (hts _ (kx_w iw_135)), (hts _ (kx_w sl_D_isCompany))⟩ (kx_preV hN hK hP hD [0] (by decide) rfl 0 rfl rfl) rfl rfl hl.1 rfl (lv_room (Nat.le_of_ble_eq_true rfl)) d_D_hold_2 ⟨Nat.le_of_ble_eq_true rfl, Nat.le_of_ble_eq_true rfl⟩) hP hD hS hA [0] [1, 2, 3, 4, 5, 6, 7] rfl rfl (by decide) (by decide) [7, 0, 1, 2, 3, 4, 5, 6] (by decide) (fun _ => rfl) (fun r2 u2 H locs hw hP hD hS => ?_)
  have hP : va_P (dC, dI) classes (WS_D_hold cI cL cZ h0 a_currencyOf a_sortOf a_closingRates a_averageRates a_sums a_historicAmounts a_holdings a_report a_holdings_parts a_holdings_chainLengths a_holdings_underControl a_holdings_shares a_holdings_chainShares a_holdings_longerChainShares v_companies v_accounts v_reserve v_holdings_parts v_holdings_chainLengths v_holdings_underControl v_holdings_shares v_holdings_chainShares v_holdings_longerChainShares) H := hP
  have hD : va_D A (WS_D_hold cI cL cZ h0 a_currencyOf a_sortOf a_closingRates a_averageRates a_sums a_historicAmounts a_holdings a_report a_holdings_parts a_holdings_chainLengths a_holdings_underControl a_holdings_shares a_holdings_chainShares a_holdings_longerChainShares v_companies v_accounts v_reserve v_holdings_parts v_holdings_chainLengths v_holdings_underControl v_holdings_shares v_holdings_chainShares v_holdings_longerChainShares) := hD
  refine lv_if_eq (tgt := 16) hx hb d_D_hold_5 rfl (fun hc => ?_) (fun hc => ?_)
  ·
    have hw := hw.1 hc
    refine lv_iconst (v := 0) hx hb d_D_hold_16 (by decide) ?_
    exact W.zret (v := 0) hx hb hr (by decide) (fun t ht hW => ⟨⟨0, (v_holdings_parts, v_holdings_chainLengths, v_holdings_underControl, v_holdings_shares, v_holdings_chainShares, v_holdings_longerChainShares), rfl, hw, ⟨by rw [ht]; exact hP, hD⟩⟩, hS.F ht⟩) hS.2.2 d_D_hold_17
  ·
    have hw := hw.2 hc
    refine lv_aload_n hx hb d_D_hold_8 rfl (lv_at hl 0 rfl) ?_
    refine lv_iload_n hx hb d_D_hold_9 rfl (lv_at hl 2 rfl) ?_
    refine kx_calli (ws' := fun u10 => (WS_D_hold cI cL cZ h0 a_currencyOf a_sortOf a_closingRates a_averageRates a_sums a_historicAmounts a_holdings a_report a_holdings_parts a_holdings_chainLengths a_holdings_underControl a_holdings_shares a_holdings_chainShares a_holdings_longerChainShares v_companies v_accounts v_reserve v_holdings_parts v_holdings_chainLengths v_holdings_underControl v_holdings_shares v_holdings_chainShares v_holdings_longerChainShares)) (va_runV (As := [.int p1]) (rest := []) ⟨hx, hb, hml, hown, hts⟩ (c_D_isCompany l dC dI cI cL cZ h0 a_currencyOf a_sortOf a_closingRates a_averageRates a_sums a_historicAmounts a_holdings a_report v_companies v_accounts v_reserve H.size p1 hw) ⟨(callB_of 1 hts (kx_good iw_136) rfl rfl rfl (hts _ (kx_w iw_1)) (hts _ (kx_w iw_133)) (by decide +kernel) ⟨Nat.le_of_ble_eq_true rfl, Nat.le_of_ble_eq_true rfl⟩), (hts _ (kx_w iw_135)), (hts _ (kx_w sl_D_isCompany))⟩ (kx_preV hN hK hP hD [0] (by decide) rfl 0 rfl rfl) rfl rfl hl.1 rfl (lv_room (Nat.le_of_ble_eq_true rfl)) d_D_hold_10 ⟨Nat.le_of_ble_eq_true rfl, Nat.le_of_ble_eq_true rfl⟩) hP hD hS hA [0] [1, 2, 3, 4, 5, 6, 7] rfl rfl (by decide) (by decide) [7, 0, 1, 2, 3, 4, 5, 6] (by decide) (fun _ => rfl) (fun r10 u10 H locs hw hP hD hS => ?_)
    have hP : va_P (dC, dI) classes (WS_D_hold cI cL cZ h0 a_currencyOf a_sortOf a_closingRates a_averageRates a_sums a_historicAmounts a_holdings a_report a_holdings_parts a_holdings_chainLengths a_holdings_underControl a_holdings_shares a_holdings_chainShares a_holdings_longerChainShares v_companies v_accounts v_reserve v_holdings_parts v_holdings_chainLengths v_holdings_underControl v_holdings_shares v_holdings_chainShares v_holdings_longerChainShares) H := hP
    have hD : va_D A (WS_D_hold cI cL cZ h0 a_currencyOf a_sortOf a_closingRates a_averageRates a_sums a_historicAmounts a_holdings a_report a_holdings_parts a_holdings_chainLengths a_holdings_underControl a_holdings_shares a_holdings_chainShares a_holdings_longerChainShares v_companies v_accounts v_reserve v_holdings_parts v_holdings_chainLengths v_holdings_underControl v_holdings_shares v_holdings_chainShares v_holdings_longerChainShares) := hD
    refine lv_if_ne (tgt := 18) hx hb d_D_hold_13 rfl (fun hc => ?_) (fun hc => ?_)
    ·
      have hw := hw.1 hc
      refine lv_iload_n hx hb d_D_hold_18 rfl (lv_at hl 3 rfl) ?_
      refine lv_if_lt (tgt := 29) hx hb d_D_hold_19 rfl (fun hc => ?_) (fun hc => ?_)
      ·
        have hw := hw.1 hc
        refine lv_iconst (v := 0) hx hb d_D_hold_29 (by decide) ?_
        exact W.zret (v := 0) hx hb hr (by decide) (fun t ht hW => ⟨⟨0, (v_holdings_parts, v_holdings_chainLengths, v_holdings_underControl, v_holdings_shares, v_holdings_chainShares, v_holdings_longerChainShares), rfl, hw, ⟨by rw [ht]; exact hP, hD⟩⟩, hS.F ht⟩) hS.2.2 d_D_hold_30
      ·
        have hw := hw.2 hc
        refine lv_iload_n hx hb d_D_hold_22 rfl (lv_at hl 3 rfl) ?_
        refine lv_sipush (v := 10000) hx hb d_D_hold_23 (by decide) ?_
        refine lv_icmp_le (tgt := 31) hx hb d_D_hold_26 rfl (fun hc => ?_) (fun hc => ?_)
        ·
          have hw := hw.1 hc
          refine lv_aload_n hx hb d_D_hold_31 rfl (lv_at hl 0 rfl) ?_
          refine va_get (D := (dC, dI)) (ci := 2) (v := .ref a_holdings) (C := R_D) (T := F_D) (N := 11) hx hb hts (kx_in in_D) hown hK hP 0 rfl rfl 9 (by decide) (hts _ (kx_w iw_93)) (fun _ h9 => h9) rfl d_D_hold_32 ?_
          refine lv_iload_n hx hb d_D_hold_35 rfl (lv_at hl 1 rfl) ?_
          refine lv_iload_n hx hb d_D_hold_36 rfl (lv_at hl 2 rfl) ?_
          refine lv_iload_n hx hb d_D_hold_37 rfl (lv_at hl 3 rfl) ?_
          refine kx_calli (ws' := fun u38 => (WS_D_hold cI cL cZ h0 a_currencyOf a_sortOf a_closingRates a_averageRates a_sums a_historicAmounts a_holdings a_report a_holdings_parts a_holdings_chainLengths a_holdings_underControl a_holdings_shares a_holdings_chainShares a_holdings_longerChainShares v_companies v_accounts v_reserve u38.1 u38.2.1 u38.2.2.1 u38.2.2.2.1 u38.2.2.2.2.1 u38.2.2.2.2.2)) (va_runV (As := [.int p0, .int p1, .int p2]) (rest := []) ⟨hx, hb, hml, hown, hts⟩ (c_H_change l dC dI cI cL cZ a_holdings a_holdings_parts a_holdings_chainLengths a_holdings_underControl a_holdings_shares a_holdings_chainShares a_holdings_longerChainShares v_holdings_parts v_holdings_chainLengths v_holdings_underControl v_holdings_shares v_holdings_chainShares v_holdings_longerChainShares H.size p0 p1 p2 hw) ⟨(callB_of 3 hts (kx_good iw_140) rfl rfl rfl (hts _ (kx_w iw_2)) (hts _ (kx_w iw_137)) (by decide +kernel) ⟨Nat.le_of_ble_eq_true rfl, Nat.le_of_ble_eq_true rfl⟩), (hts _ (kx_w iw_138)), (hts _ (kx_w iw_139))⟩ (kx_preV hN hK hP hD [1, 2, 3, 4, 5, 6, 7] (by decide) rfl 1 rfl rfl) rfl rfl hl.1 rfl (lv_room (Nat.le_of_ble_eq_true rfl)) d_D_hold_38 ⟨Nat.le_of_ble_eq_true rfl, Nat.le_of_ble_eq_true rfl⟩) hP hD hS hA [1, 2, 3, 4, 5, 6, 7] [0] rfl rfl (by decide) (by decide) [0, 1, 2, 3, 4, 5, 6, 7] (by decide) (fun _ => rfl) (fun r38 u38 H locs hw hP hD hS => ?_)
          have hP : va_P (dC, dI) classes (WS_D_hold cI cL cZ h0 a_currencyOf a_sortOf a_closingRates a_averageRates a_sums a_historicAmounts a_holdings a_report a_holdings_parts a_holdings_chainLengths a_holdings_underControl a_holdings_shares a_holdings_chainShares a_holdings_longerChainShares v_companies v_accounts v_reserve u38.1 u38.2.1 u38.2.2.1 u38.2.2.2.1 u38.2.2.2.2.1 u38.2.2.2.2.2) H := hP
          have hD : va_D A (WS_D_hold cI cL cZ h0 a_currencyOf a_sortOf a_closingRates a_averageRates a_sums a_historicAmounts a_holdings a_report a_holdings_parts a_holdings_chainLengths a_holdings_underControl a_holdings_shares a_holdings_chainShares a_holdings_longerChainShares v_companies v_accounts v_reserve u38.1 u38.2.1 u38.2.2.1 u38.2.2.2.1 u38.2.2.2.2.1 u38.2.2.2.2.2) := hD
          obtain ⟨hnz, hw⟩ := hw
          exact W.zret (v := r38) hx hb hr hnz (fun t ht hW => ⟨⟨r38, (u38.1, u38.2.1, u38.2.2.1, u38.2.2.2.1, u38.2.2.2.2.1, u38.2.2.2.2.2), rfl, hw, ⟨by rw [ht]; exact hP, hD⟩⟩, hS.F ht⟩) hS.2.2 d_D_hold_41
        ·
          have hw := hw.2 hc
          refine lv_iconst (v := 0) hx hb d_D_hold_29 (by decide) ?_
          exact W.zret (v := 0) hx hb hr (by decide) (fun t ht hW => ⟨⟨0, (v_holdings_parts, v_holdings_chainLengths, v_holdings_underControl, v_holdings_shares, v_holdings_chainShares, v_holdings_longerChainShares), rfl, hw, ⟨by rw [ht]; exact hP, hD⟩⟩, hS.F ht⟩) hS.2.2 d_D_hold_30
    ·
      have hw := hw.2 hc
      refine lv_iconst (v := 0) hx hb d_D_hold_16 (by decide) ?_
      exact W.zret (v := 0) hx hb hr (by decide) (fun t ht hW => ⟨⟨0, (v_holdings_parts, v_holdings_chainLengths, v_holdings_underControl, v_holdings_shares, v_holdings_chainShares, v_holdings_longerChainShares), rfl, hw, ⟨by rw [ht]; exact hP, hD⟩⟩, hS.F ht⟩) hS.2.2 d_D_hold_17
/-! ConsolidationDesk.rate(III)Z -/
abbrev y_D_rate : MethodName := ⟨"ConsolidationDesk", "rate", "(III)Z"⟩
theorem d_D_rate_0 : decode prog_1_method_5_code 0 = .ok (.iload_n 1, 1) := by decide +kernel
theorem d_D_rate_1 : decode prog_1_method_5_code 1 = .ok (.invokestatic 54, 3) := by decide +kernel
theorem d_D_rate_4 : decode prog_1_method_5_code 4 = .ok (.ifCond .eq 7, 3) := by decide +kernel
theorem d_D_rate_7 : decode prog_1_method_5_code 7 = .ok (.iload_n 1, 1) := by decide +kernel
theorem d_D_rate_8 : decode prog_1_method_5_code 8 = .ok (.ifCond .ne 5, 3) := by decide +kernel
theorem d_D_rate_11 : decode prog_1_method_5_code 11 = .ok (.iconst 0, 1) := by decide +kernel
theorem d_D_rate_12 : decode prog_1_method_5_code 12 = .ok (.ireturn, 1) := by decide +kernel
theorem d_D_rate_13 : decode prog_1_method_5_code 13 = .ok (.iload_n 2, 1) := by decide +kernel
theorem d_D_rate_14 : decode prog_1_method_5_code 14 = .ok (.invokestatic 65, 3) := by decide +kernel
theorem d_D_rate_17 : decode prog_1_method_5_code 17 = .ok (.ifCond .eq 10, 3) := by decide +kernel
theorem d_D_rate_20 : decode prog_1_method_5_code 20 = .ok (.iload_n 3, 1) := by decide +kernel
theorem d_D_rate_21 : decode prog_1_method_5_code 21 = .ok (.invokestatic 65, 3) := by decide +kernel
theorem d_D_rate_24 : decode prog_1_method_5_code 24 = .ok (.ifCond .ne 5, 3) := by decide +kernel
theorem d_D_rate_27 : decode prog_1_method_5_code 27 = .ok (.iconst 0, 1) := by decide +kernel
theorem d_D_rate_28 : decode prog_1_method_5_code 28 = .ok (.ireturn, 1) := by decide +kernel
theorem d_D_rate_29 : decode prog_1_method_5_code 29 = .ok (.aload_n 0, 1) := by decide +kernel
theorem d_D_rate_30 : decode prog_1_method_5_code 30 = .ok (.getfield 26, 3) := by decide +kernel
theorem d_D_rate_33 : decode prog_1_method_5_code 33 = .ok (.iload_n 1, 1) := by decide +kernel
theorem d_D_rate_34 : decode prog_1_method_5_code 34 = .ok (.iload_n 2, 1) := by decide +kernel
theorem d_D_rate_35 : decode prog_1_method_5_code 35 = .ok (.iastore, 1) := by decide +kernel
theorem d_D_rate_36 : decode prog_1_method_5_code 36 = .ok (.aload_n 0, 1) := by decide +kernel
theorem d_D_rate_37 : decode prog_1_method_5_code 37 = .ok (.getfield 29, 3) := by decide +kernel
theorem d_D_rate_40 : decode prog_1_method_5_code 40 = .ok (.iload_n 1, 1) := by decide +kernel
theorem d_D_rate_41 : decode prog_1_method_5_code 41 = .ok (.iload_n 3, 1) := by decide +kernel
theorem d_D_rate_42 : decode prog_1_method_5_code 42 = .ok (.iastore, 1) := by decide +kernel
theorem d_D_rate_43 : decode prog_1_method_5_code 43 = .ok (.iconst 1, 1) := by decide +kernel
theorem d_D_rate_44 : decode prog_1_method_5_code 44 = .ok (.ireturn, 1) := by decide +kernel
abbrev WS_D_rate (cI cL cZ : ClassId)  (h0 a_currencyOf a_sortOf a_closingRates a_averageRates a_sums a_historicAmounts a_holdings a_report : Nat) (v_companies : Int32) (v_accounts : Int32) (v_reserve : Int32) (v_closingRates : (Nat → Int32)) (v_averageRates : (Nat → Int32)) : va_W := [(h0, .inr (2, [.int v_companies, .ref a_currencyOf, .int v_accounts, .ref a_sortOf, .int v_reserve, .ref a_closingRates, .ref a_averageRates, .ref a_sums, .ref a_historicAmounts, .ref a_holdings, .ref a_report])), (a_closingRates, .inl (cI, 4, .inl v_closingRates)), (a_averageRates, .inl (cI, 4, .inl v_averageRates))]
def wp_D_rate  (p0 : Int32) (p1 : Int32) (p2 : Int32) (v_closingRates : (Nat → Int32)) (v_averageRates : (Nat → Int32)) (post : Int32 → ((Nat → Int32) × (Nat → Int32)) → Prop) : Prop := (wp_D_isCurrency p0 (fun (r1 : Int32) (u1 : Unit) => ((r1 = 0 → post 0 (v_closingRates, v_averageRates)) ∧ (¬ r1 = 0 → ((¬ p0 = 0 → (wp_D_isRate p1 (fun (r14 : Int32) (u14 : Unit) => ((r14 = 0 → post 0 (v_closingRates, v_averageRates)) ∧ (¬ r14 = 0 → (wp_D_isRate p2 (fun (r21 : Int32) (u21 : Unit) => ((¬ r21 = 0 → (vp_in p0 4 ∧ (vp_in p0 4 ∧ post 1 ((upd v_closingRates p0.toNatClampNeg p1), (upd v_averageRates p0.toNatClampNeg p2))))) ∧ (r21 = 0 → post 0 (v_closingRates, v_averageRates)))))))))) ∧ (p0 = 0 → post 0 (v_closingRates, v_averageRates)))))))
abbrev ws_D_rate : List Cond := .code y_D_rate prog_1_method_5_code 4 (some .boolean) :: kxW
abbrev rm_D_rate : Room := { frames := 1, cells := 0, slots := 0, locals := 20 }
abbrev QC_D_rate (dC : Nat → ClassId) (dI : Nat → Nat → Nat) (cI cL cZ : ClassId) (A : Nat → Prop)  (h0 a_currencyOf a_sortOf a_closingRates a_averageRates a_sums a_historicAmounts a_holdings a_report : Nat) (v_companies : Int32) (v_accounts : Int32) (v_reserve : Int32) (v_closingRates : (Nat → Int32)) (v_averageRates : (Nat → Int32)) (post : Int32 → ((Nat → Int32) × (Nat → Int32)) → Prop) : Array Value → State → Outcome → State → Prop := va_Qi post (fun (u : (Nat → Int32) × (Nat → Int32)) t => kx_B (dC, dI) classes A (WS_D_rate cI cL cZ h0 a_currencyOf a_sortOf a_closingRates a_averageRates a_sums a_historicAmounts a_holdings a_report v_companies v_accounts v_reserve u.1 u.2) t) A
set_option maxHeartbeats 4000000 in
set_option maxRecDepth 100000 in
theorem c_D_rate (l : Launch) (dC : Nat → ClassId) (dI : Nat → Nat → Nat) (cI cL cZ : ClassId)  (h0 a_currencyOf a_sortOf a_closingRates a_averageRates a_sums a_historicAmounts a_holdings a_report : Nat) (v_companies : Int32) (v_accounts : Int32) (v_reserve : Int32) (v_closingRates : (Nat → Int32)) (v_averageRates : (Nat → Int32)) (sz : Nat) (p0 : Int32) (p1 : Int32) (p2 : Int32) {post : Int32 → ((Nat → Int32) × (Nat → Int32)) → Prop} (hw : wp_D_rate p0 p1 p2 v_closingRates v_averageRates post) : Met l y_D_rate ws_D_rate rm_D_rate (kx_Pc (dC, dI) classes (kx_T cI cL cZ) (WS_D_rate cI cL cZ h0 a_currencyOf a_sortOf a_closingRates a_averageRates a_sums a_historicAmounts a_holdings a_report v_companies v_accounts v_reserve v_closingRates v_averageRates) sz [.ref h0, .int p0, .int p1, .int p2]) (QC_D_rate dC dI cI cL cZ (va_A (WS_D_rate cI cL cZ h0 a_currencyOf a_sortOf a_closingRates a_averageRates a_sums a_historicAmounts a_holdings a_report v_companies v_accounts v_reserve v_closingRates v_averageRates) sz) h0 a_currencyOf a_sortOf a_closingRates a_averageRates a_sums a_historicAmounts a_holdings a_report v_companies v_accounts v_reserve v_closingRates v_averageRates post) 0 0 (va_A (WS_D_rate cI cL cZ h0 a_currencyOf a_sortOf a_closingRates a_averageRates a_sums a_historicAmounts a_holdings a_report v_companies v_accounts v_reserve v_closingRates v_averageRates) sz) := by
  refine Met.ofW (cc := prog_1_method_5_code) (maxL := 4) (ret := (some .boolean)) (by decide) rfl ?_
  intro p e s m args below meth c s₁ B hml hv
  obtain ⟨rfl, hsz, hP, hK, hD0, hN⟩ := hv
  have hx := B.exec
  have hb := B.bytes
  have hr := B.returns
  have hts := atoms_spec (ws := ws_D_rate) B.pre
  have hown : s.vm.findClass R_D = some m.cls := findClass_of_methodNamed B.named
  have hlocks := B.notSynchronized
  subst hsz
  have hD := hD0.self (sz := s.heap.size)
  generalize hAe : va_A (WS_D_rate cI cL cZ h0 a_currencyOf a_sortOf a_closingRates a_averageRates a_sums a_historicAmounts a_holdings a_report v_companies v_accounts v_reserve v_closingRates v_averageRates) s.heap.size = A at hD ⊢
  have hA : ∀ q : Nat, s.heap.size ≤ q → A q := fun q h => by rw [← hAe]; exact Or.inr h
  have hS : va_S A s.heap s.heap [] := va_S.rf
  have hP : va_P (dC, dI) classes (WS_D_rate cI cL cZ h0 a_currencyOf a_sortOf a_closingRates a_averageRates a_sums a_historicAmounts a_holdings a_report v_companies v_accounts v_reserve v_closingRates v_averageRates) s.heap := hP
  have hl := lv_entry ([.ref h0, .int p0, .int p1, .int p2]) (n := 4) (Nat.le_of_ble_eq_true rfl)
  rw [lg_entry_eq]
  generalize (lg_sl ([.ref h0, .int p0, .int p1, .int p2]) ++ List.replicate (4 - (lg_sl ([.ref h0, .int p0, .int p1, .int p2])).length) Slot.unset).toArray = ls at hl ⊢
  have hl : lv_has ls 4 [(0, .ref h0), (1, .int p0), (2, .int p1), (3, .int p2)] := hl
  unfold wp_D_rate at hw
  refine (show ∀ (H : Heap) (locs : List Loc), va_P (dC, dI) classes (WS_D_rate cI cL cZ h0 a_currencyOf a_sortOf a_closingRates a_averageRates a_sums a_historicAmounts a_holdings a_report v_companies v_accounts v_reserve v_closingRates v_averageRates) H → va_S A s.heap H locs → W p l e (headSpec ws_D_rate rm_D_rate).room s m ([.ref h0, .int p0, .int p1, .int p2] : List Value).toArray below meth c H locs 0 0 (MQ below (QC_D_rate dC dI cI cL cZ A h0 a_currencyOf a_sortOf a_closingRates a_averageRates a_sums a_historicAmounts a_holdings a_report v_companies v_accounts v_reserve v_closingRates v_averageRates post) ([.ref h0, .int p0, .int p1, .int p2] : List Value).toArray s 0 0 A) (F0 m 0 ls []) from ?_) _ _ hP hS
  intro H locs hP hS
  refine lv_iload_n hx hb d_D_rate_0 rfl (lv_at hl 1 rfl) ?_
  refine kx_calli (ws' := fun u1 => (WS_D_rate cI cL cZ h0 a_currencyOf a_sortOf a_closingRates a_averageRates a_sums a_historicAmounts a_holdings a_report v_companies v_accounts v_reserve v_closingRates v_averageRates)) (va_runS (As := [.int p0]) (rest := []) ⟨hx, hb, hml, hown, hts⟩ (c_D_isCurrency l dC dI cI cL cZ  H.size p0 hw) ⟨(callB_of 1 hts (kx_good iw_124) rfl rfl rfl (hts _ (kx_w iw_1)) (hts _ (kx_w iw_122)) (by decide +kernel) ⟨Nat.le_of_ble_eq_true rfl, Nat.le_of_ble_eq_true rfl⟩), (hts _ (kx_w iw_123))⟩ (kx_preS hN hK hP hD [] (by decide) rfl) rfl rfl hl.1 rfl (lv_room (Nat.le_of_ble_eq_true rfl)) d_D_rate_1 ⟨Nat.le_of_ble_eq_true rfl, Nat.le_of_ble_eq_true rfl⟩) hP hD hS hA [] [0, 1, 2] rfl rfl (by decide) (by decide) [0, 1, 2] (by decide) (fun _ => rfl) (fun r1 u1 H locs hw hP hD hS => ?_)
  have hP : va_P (dC, dI) classes (WS_D_rate cI cL cZ h0 a_currencyOf a_sortOf a_closingRates a_averageRates a_sums a_historicAmounts a_holdings a_report v_companies v_accounts v_reserve v_closingRates v_averageRates) H := hP
  have hD : va_D A (WS_D_rate cI cL cZ h0 a_currencyOf a_sortOf a_closingRates a_averageRates a_sums a_historicAmounts a_holdings a_report v_companies v_accounts v_reserve v_closingRates v_averageRates) := hD
  refine lv_if_eq (tgt := 11) hx hb d_D_rate_4 rfl (fun hc => ?_) (fun hc => ?_)
  ·
    have hw := hw.1 hc
    refine lv_iconst (v := 0) hx hb d_D_rate_11 (by decide) ?_
    exact W.zret (v := 0) hx hb hr (by decide) (fun t ht hW => ⟨⟨0, (v_closingRates, v_averageRates), rfl, hw, ⟨by rw [ht]; exact hP, hD⟩⟩, hS.F ht⟩) hS.2.2 d_D_rate_12
  ·
    have hw := hw.2 hc
    refine lv_iload_n hx hb d_D_rate_7 rfl (lv_at hl 1 rfl) ?_
    refine lv_if_ne (tgt := 13) hx hb d_D_rate_8 rfl (fun hc => ?_) (fun hc => ?_)
    ·
      have hw := hw.1 hc
      refine lv_iload_n hx hb d_D_rate_13 rfl (lv_at hl 2 rfl) ?_
      refine kx_calli (ws' := fun u14 => (WS_D_rate cI cL cZ h0 a_currencyOf a_sortOf a_closingRates a_averageRates a_sums a_historicAmounts a_holdings a_report v_companies v_accounts v_reserve v_closingRates v_averageRates)) (va_runS (As := [.int p1]) (rest := []) ⟨hx, hb, hml, hown, hts⟩ (c_D_isRate l dC dI cI cL cZ  H.size p1 hw) ⟨(callB_of 1 hts (kx_good iw_188) rfl rfl rfl (hts _ (kx_w iw_1)) (hts _ (kx_w iw_186)) (by decide +kernel) ⟨Nat.le_of_ble_eq_true rfl, Nat.le_of_ble_eq_true rfl⟩), (hts _ (kx_w iw_187))⟩ (kx_preS hN hK hP hD [] (by decide) rfl) rfl rfl hl.1 rfl (lv_room (Nat.le_of_ble_eq_true rfl)) d_D_rate_14 ⟨Nat.le_of_ble_eq_true rfl, Nat.le_of_ble_eq_true rfl⟩) hP hD hS hA [] [0, 1, 2] rfl rfl (by decide) (by decide) [0, 1, 2] (by decide) (fun _ => rfl) (fun r14 u14 H locs hw hP hD hS => ?_)
      have hP : va_P (dC, dI) classes (WS_D_rate cI cL cZ h0 a_currencyOf a_sortOf a_closingRates a_averageRates a_sums a_historicAmounts a_holdings a_report v_companies v_accounts v_reserve v_closingRates v_averageRates) H := hP
      have hD : va_D A (WS_D_rate cI cL cZ h0 a_currencyOf a_sortOf a_closingRates a_averageRates a_sums a_historicAmounts a_holdings a_report v_companies v_accounts v_reserve v_closingRates v_averageRates) := hD
      refine lv_if_eq (tgt := 27) hx hb d_D_rate_17 rfl (fun hc => ?_) (fun hc => ?_)
      ·
        have hw := hw.1 hc
        refine lv_iconst (v := 0) hx hb d_D_rate_27 (by decide) ?_
        exact W.zret (v := 0) hx hb hr (by decide) (fun t ht hW => ⟨⟨0, (v_closingRates, v_averageRates), rfl, hw, ⟨by rw [ht]; exact hP, hD⟩⟩, hS.F ht⟩) hS.2.2 d_D_rate_28
      ·
        have hw := hw.2 hc
        refine lv_iload_n hx hb d_D_rate_20 rfl (lv_at hl 3 rfl) ?_
        refine kx_calli (ws' := fun u21 => (WS_D_rate cI cL cZ h0 a_currencyOf a_sortOf a_closingRates a_averageRates a_sums a_historicAmounts a_holdings a_report v_companies v_accounts v_reserve v_closingRates v_averageRates)) (va_runS (As := [.int p2]) (rest := []) ⟨hx, hb, hml, hown, hts⟩ (c_D_isRate l dC dI cI cL cZ  H.size p2 hw) ⟨(callB_of 1 hts (kx_good iw_188) rfl rfl rfl (hts _ (kx_w iw_1)) (hts _ (kx_w iw_186)) (by decide +kernel) ⟨Nat.le_of_ble_eq_true rfl, Nat.le_of_ble_eq_true rfl⟩), (hts _ (kx_w iw_187))⟩ (kx_preS hN hK hP hD [] (by decide) rfl) rfl rfl hl.1 rfl (lv_room (Nat.le_of_ble_eq_true rfl)) d_D_rate_21 ⟨Nat.le_of_ble_eq_true rfl, Nat.le_of_ble_eq_true rfl⟩) hP hD hS hA [] [0, 1, 2] rfl rfl (by decide) (by decide) [0, 1, 2] (by decide) (fun _ => rfl) (fun r21 u21 H locs hw hP hD hS => ?_)
        have hP : va_P (dC, dI) classes (WS_D_rate cI cL cZ h0 a_currencyOf a_sortOf a_closingRates a_averageRates a_sums a_historicAmounts a_holdings a_report v_companies v_accounts v_reserve v_closingRates v_averageRates) H := hP
        have hD : va_D A (WS_D_rate cI cL cZ h0 a_currencyOf a_sortOf a_closingRates a_averageRates a_sums a_historicAmounts a_holdings a_report v_companies v_accounts v_reserve v_closingRates v_averageRates) := hD
        refine lv_if_ne (tgt := 29) hx hb d_D_rate_24 rfl (fun hc => ?_) (fun hc => ?_)
        ·
          have hw := hw.1 hc
          refine lv_aload_n hx hb d_D_rate_29 rfl (lv_at hl 0 rfl) ?_
          refine va_get (D := (dC, dI)) (ci := 2) (v := .ref a_closingRates) (C := R_D) (T := F_D) (N := 11) hx hb hts (kx_in in_D) hown hK hP 0 rfl rfl 5 (by decide) (hts _ (kx_w iw_89)) (fun _ h9 => h9) rfl d_D_rate_30 ?_
          refine lv_iload_n hx hb d_D_rate_33 rfl (lv_at hl 1 rfl) ?_
          refine lv_iload_n hx hb d_D_rate_34 rfl (lv_at hl 2 rfl) ?_
          obtain ⟨hi, hw⟩ := hw
          refine va_iast hx hb hK hP hD hS 1 0 rfl rfl hi d_D_rate_35 (fun H locs hP hD hS => ?_)
          have hP : va_P (dC, dI) classes (WS_D_rate cI cL cZ h0 a_currencyOf a_sortOf a_closingRates a_averageRates a_sums a_historicAmounts a_holdings a_report v_companies v_accounts v_reserve (upd v_closingRates p0.toNatClampNeg p1) v_averageRates) H := hP
          have hD : va_D A (WS_D_rate cI cL cZ h0 a_currencyOf a_sortOf a_closingRates a_averageRates a_sums a_historicAmounts a_holdings a_report v_companies v_accounts v_reserve (upd v_closingRates p0.toNatClampNeg p1) v_averageRates) := hD
          refine lv_aload_n hx hb d_D_rate_36 rfl (lv_at hl 0 rfl) ?_
          refine va_get (D := (dC, dI)) (ci := 2) (v := .ref a_averageRates) (C := R_D) (T := F_D) (N := 11) hx hb hts (kx_in in_D) hown hK hP 0 rfl rfl 6 (by decide) (hts _ (kx_w iw_90)) (fun _ h9 => h9) rfl d_D_rate_37 ?_
          refine lv_iload_n hx hb d_D_rate_40 rfl (lv_at hl 1 rfl) ?_
          refine lv_iload_n hx hb d_D_rate_41 rfl (lv_at hl 3 rfl) ?_
          obtain ⟨hi, hw⟩ := hw
          refine va_iast hx hb hK hP hD hS 2 0 rfl rfl hi d_D_rate_42 (fun H locs hP hD hS => ?_)
          have hP : va_P (dC, dI) classes (WS_D_rate cI cL cZ h0 a_currencyOf a_sortOf a_closingRates a_averageRates a_sums a_historicAmounts a_holdings a_report v_companies v_accounts v_reserve (upd v_closingRates p0.toNatClampNeg p1) (upd v_averageRates p0.toNatClampNeg p2)) H := hP
          have hD : va_D A (WS_D_rate cI cL cZ h0 a_currencyOf a_sortOf a_closingRates a_averageRates a_sums a_historicAmounts a_holdings a_report v_companies v_accounts v_reserve (upd v_closingRates p0.toNatClampNeg p1) (upd v_averageRates p0.toNatClampNeg p2)) := hD
          refine lv_iconst (v := 1) hx hb d_D_rate_43 (by decide) ?_
          exact W.zret (v := 1) hx hb hr (by decide) (fun t ht hW => ⟨⟨1, ((upd v_closingRates p0.toNatClampNeg p1), (upd v_averageRates p0.toNatClampNeg p2)), rfl, hw, ⟨by rw [ht]; exact hP, hD⟩⟩, hS.F ht⟩) hS.2.2 d_D_rate_44
        ·
          have hw := hw.2 hc
          refine lv_iconst (v := 0) hx hb d_D_rate_27 (by decide) ?_
          exact W.zret (v := 0) hx hb hr (by decide) (fun t ht hW => ⟨⟨0, (v_closingRates, v_averageRates), rfl, hw, ⟨by rw [ht]; exact hP, hD⟩⟩, hS.F ht⟩) hS.2.2 d_D_rate_28
    ·
      have hw := hw.2 hc
      refine lv_iconst (v := 0) hx hb d_D_rate_11 (by decide) ?_
      exact W.zret (v := 0) hx hb hr (by decide) (fun t ht hW => ⟨⟨0, (v_closingRates, v_averageRates), rfl, hw, ⟨by rw [ht]; exact hP, hD⟩⟩, hS.F ht⟩) hS.2.2 d_D_rate_12
/-! ConsolidationDesk.post(IIIJ)Z -/
abbrev y_D_post : MethodName := ⟨"ConsolidationDesk", "post", "(IIIJ)Z"⟩
theorem d_D_post_0 : decode prog_1_method_6_code 0 = .ok (.aload_n 0, 1) := by decide +kernel
theorem d_D_post_1 : decode prog_1_method_6_code 1 = .ok (.iload_n 1, 1) := by decide +kernel
theorem d_D_post_2 : decode prog_1_method_6_code 2 = .ok (.iload_n 2, 1) := by decide +kernel
theorem d_D_post_3 : decode prog_1_method_6_code 3 = .ok (.iload_n 3, 1) := by decide +kernel
theorem d_D_post_4 : decode prog_1_method_6_code 4 = .ok (.invokevirtual 68, 3) := by decide +kernel
theorem d_D_post_7 : decode prog_1_method_6_code 7 = .ok (.ifCond .eq 12, 3) := by decide +kernel
theorem d_D_post_10 : decode prog_1_method_6_code 10 = .ok (.aload_n 0, 1) := by decide +kernel
theorem d_D_post_11 : decode prog_1_method_6_code 11 = .ok (.iload_n 2, 1) := by decide +kernel
theorem d_D_post_12 : decode prog_1_method_6_code 12 = .ok (.iload_n 3, 1) := by decide +kernel
theorem d_D_post_13 : decode prog_1_method_6_code 13 = .ok (.invokevirtual 71, 3) := by decide +kernel
theorem d_D_post_16 : decode prog_1_method_6_code 16 = .ok (.ifCond .ne 5, 3) := by decide +kernel
theorem d_D_post_19 : decode prog_1_method_6_code 19 = .ok (.iconst 0, 1) := by decide +kernel
theorem d_D_post_20 : decode prog_1_method_6_code 20 = .ok (.ireturn, 1) := by decide +kernel
theorem d_D_post_21 : decode prog_1_method_6_code 21 = .ok (.iload_n 1, 1) := by decide +kernel
theorem d_D_post_22 : decode prog_1_method_6_code 22 = .ok (.iload_n 3, 1) := by decide +kernel
theorem d_D_post_23 : decode prog_1_method_6_code 23 = .ok (.iload_n 2, 1) := by decide +kernel
theorem d_D_post_24 : decode prog_1_method_6_code 24 = .ok (.invokestatic 75, 3) := by decide +kernel
theorem d_D_post_27 : decode prog_1_method_6_code 27 = .ok (.istore 6, 2) := by decide +kernel
theorem d_D_post_29 : decode prog_1_method_6_code 29 = .ok (.aload_n 0, 1) := by decide +kernel
theorem d_D_post_30 : decode prog_1_method_6_code 30 = .ok (.getfield 33, 3) := by decide +kernel
theorem d_D_post_33 : decode prog_1_method_6_code 33 = .ok (.iload 6, 2) := by decide +kernel
theorem d_D_post_35 : decode prog_1_method_6_code 35 = .ok (.laload, 1) := by decide +kernel
theorem d_D_post_36 : decode prog_1_method_6_code 36 = .ok (.lstore 7, 2) := by decide +kernel
theorem d_D_post_38 : decode prog_1_method_6_code 38 = .ok (.lload 4, 2) := by decide +kernel
theorem d_D_post_40 : decode prog_1_method_6_code 40 = .ok (.ldc2_w 79, 3) := by decide +kernel
theorem d_D_post_43 : decode prog_1_method_6_code 43 = .ok (.lload 7, 2) := by decide +kernel
theorem d_D_post_45 : decode prog_1_method_6_code 45 = .ok (.lsub, 1) := by decide +kernel
theorem d_D_post_46 : decode prog_1_method_6_code 46 = .ok (.lcmp, 1) := by decide +kernel
theorem d_D_post_47 : decode prog_1_method_6_code 47 = .ok (.ifCond .gt 15, 3) := by decide +kernel
theorem d_D_post_50 : decode prog_1_method_6_code 50 = .ok (.lload 4, 2) := by decide +kernel
theorem d_D_post_52 : decode prog_1_method_6_code 52 = .ok (.ldc2_w 81, 3) := by decide +kernel
theorem d_D_post_55 : decode prog_1_method_6_code 55 = .ok (.lload 7, 2) := by decide +kernel
theorem d_D_post_57 : decode prog_1_method_6_code 57 = .ok (.lsub, 1) := by decide +kernel
theorem d_D_post_58 : decode prog_1_method_6_code 58 = .ok (.lcmp, 1) := by decide +kernel
theorem d_D_post_59 : decode prog_1_method_6_code 59 = .ok (.ifCond .ge 5, 3) := by decide +kernel
theorem d_D_post_62 : decode prog_1_method_6_code 62 = .ok (.iconst 0, 1) := by decide +kernel
theorem d_D_post_63 : decode prog_1_method_6_code 63 = .ok (.ireturn, 1) := by decide +kernel
theorem d_D_post_64 : decode prog_1_method_6_code 64 = .ok (.aload_n 0, 1) := by decide +kernel
theorem d_D_post_65 : decode prog_1_method_6_code 65 = .ok (.getfield 33, 3) := by decide +kernel
theorem d_D_post_68 : decode prog_1_method_6_code 68 = .ok (.iload 6, 2) := by decide +kernel
theorem d_D_post_70 : decode prog_1_method_6_code 70 = .ok (.lload 7, 2) := by decide +kernel
theorem d_D_post_72 : decode prog_1_method_6_code 72 = .ok (.lload 4, 2) := by decide +kernel
theorem d_D_post_74 : decode prog_1_method_6_code 74 = .ok (.ladd, 1) := by decide +kernel
theorem d_D_post_75 : decode prog_1_method_6_code 75 = .ok (.lastore, 1) := by decide +kernel
theorem d_D_post_76 : decode prog_1_method_6_code 76 = .ok (.iconst 1, 1) := by decide +kernel
theorem d_D_post_77 : decode prog_1_method_6_code 77 = .ok (.ireturn, 1) := by decide +kernel
abbrev WS_D_post (cI cL cZ : ClassId)  (h0 a_currencyOf a_sortOf a_closingRates a_averageRates a_sums a_historicAmounts a_holdings a_report : Nat) (v_companies : Int32) (v_accounts : Int32) (v_reserve : Int32) (v_sortOf : (Nat → Int32)) (v_sums : (Nat → Int64)) : va_W := [(h0, .inr (2, [.int v_companies, .ref a_currencyOf, .int v_accounts, .ref a_sortOf, .int v_reserve, .ref a_closingRates, .ref a_averageRates, .ref a_sums, .ref a_historicAmounts, .ref a_holdings, .ref a_report])), (a_sortOf, .inl (cI, 12, .inl v_sortOf)), (a_sums, .inl (cL, 1872, .inr (.inl v_sums)))]
def wp_D_post  (p0 : Int32) (p1 : Int32) (p2 : Int32) (p3 : Int64) (v_companies : Int32) (v_accounts : Int32) (v_sortOf : (Nat → Int32)) (v_sums : (Nat → Int64)) (post : Int32 → (Nat → Int64) → Prop) : Prop := (wp_D_isPlace p0 p1 p2 v_companies v_accounts (fun (r4 : Int32) (u4 : Unit) => ((r4 = 0 → post 0 v_sums) ∧ (¬ r4 = 0 → (wp_D_takes p1 p2 v_sortOf (fun (r13 : Int32) (u13 : Unit) => ((¬ r13 = 0 → (wp_D_place p0 p2 p1 (fun (r24 : Int32) (u24 : Unit) => (vp_in r24 1872 ∧ (∀ x36 : Int64, x36 = (v_sums r24.toNatClampNeg) → (((1000000000000 - x36) < p3 → post 0 v_sums) ∧ (¬ (1000000000000 - x36) < p3 → ((((-1000000000000) - x36) ≤ p3 → (vp_in r24 1872 ∧ post 1 (vp_updL v_sums r24.toNatClampNeg (x36 + p3)))) ∧ (¬ ((-1000000000000) - x36) ≤ p3 → post 0 v_sums))))))))) ∧ (r13 = 0 → post 0 v_sums))))))))
abbrev ws_D_post : List Cond := .code y_D_post prog_1_method_6_code 9 (some .boolean) :: kxW
abbrev rm_D_post : Room := { frames := 3, cells := 0, slots := 0, locals := 66 }
abbrev QC_D_post (dC : Nat → ClassId) (dI : Nat → Nat → Nat) (cI cL cZ : ClassId) (A : Nat → Prop)  (h0 a_currencyOf a_sortOf a_closingRates a_averageRates a_sums a_historicAmounts a_holdings a_report : Nat) (v_companies : Int32) (v_accounts : Int32) (v_reserve : Int32) (v_sortOf : (Nat → Int32)) (v_sums : (Nat → Int64)) (post : Int32 → (Nat → Int64) → Prop) : Array Value → State → Outcome → State → Prop := va_Qi post (fun (u : (Nat → Int64)) t => kx_B (dC, dI) classes A (WS_D_post cI cL cZ h0 a_currencyOf a_sortOf a_closingRates a_averageRates a_sums a_historicAmounts a_holdings a_report v_companies v_accounts v_reserve v_sortOf u) t) A
set_option maxHeartbeats 4000000 in
set_option maxRecDepth 100000 in
theorem c_D_post (l : Launch) (dC : Nat → ClassId) (dI : Nat → Nat → Nat) (cI cL cZ : ClassId)  (h0 a_currencyOf a_sortOf a_closingRates a_averageRates a_sums a_historicAmounts a_holdings a_report : Nat) (v_companies : Int32) (v_accounts : Int32) (v_reserve : Int32) (v_sortOf : (Nat → Int32)) (v_sums : (Nat → Int64)) (sz : Nat) (p0 : Int32) (p1 : Int32) (p2 : Int32) (p3 : Int64) {post : Int32 → (Nat → Int64) → Prop} (hw : wp_D_post p0 p1 p2 p3 v_companies v_accounts v_sortOf v_sums post) : Met l y_D_post ws_D_post rm_D_post (kx_Pc (dC, dI) classes (kx_T cI cL cZ) (WS_D_post cI cL cZ h0 a_currencyOf a_sortOf a_closingRates a_averageRates a_sums a_historicAmounts a_holdings a_report v_companies v_accounts v_reserve v_sortOf v_sums) sz [.ref h0, .int p0, .int p1, .int p2, .long p3]) (QC_D_post dC dI cI cL cZ (va_A (WS_D_post cI cL cZ h0 a_currencyOf a_sortOf a_closingRates a_averageRates a_sums a_historicAmounts a_holdings a_report v_companies v_accounts v_reserve v_sortOf v_sums) sz) h0 a_currencyOf a_sortOf a_closingRates a_averageRates a_sums a_historicAmounts a_holdings a_report v_companies v_accounts v_reserve v_sortOf v_sums post) 0 0 (va_A (WS_D_post cI cL cZ h0 a_currencyOf a_sortOf a_closingRates a_averageRates a_sums a_historicAmounts a_holdings a_report v_companies v_accounts v_reserve v_sortOf v_sums) sz) := by
  refine Met.ofW (cc := prog_1_method_6_code) (maxL := 9) (ret := (some .boolean)) (by decide) rfl ?_
  intro p e s m args below meth c s₁ B hml hv
  obtain ⟨rfl, hsz, hP, hK, hD0, hN⟩ := hv
  have hx := B.exec
  have hb := B.bytes
  have hr := B.returns
  have hts := atoms_spec (ws := ws_D_post) B.pre
  have hown : s.vm.findClass R_D = some m.cls := findClass_of_methodNamed B.named
  have hlocks := B.notSynchronized
  subst hsz
  have hD := hD0.self (sz := s.heap.size)
  generalize hAe : va_A (WS_D_post cI cL cZ h0 a_currencyOf a_sortOf a_closingRates a_averageRates a_sums a_historicAmounts a_holdings a_report v_companies v_accounts v_reserve v_sortOf v_sums) s.heap.size = A at hD ⊢
  have hA : ∀ q : Nat, s.heap.size ≤ q → A q := fun q h => by rw [← hAe]; exact Or.inr h
  have hS : va_S A s.heap s.heap [] := va_S.rf
  have hP : va_P (dC, dI) classes (WS_D_post cI cL cZ h0 a_currencyOf a_sortOf a_closingRates a_averageRates a_sums a_historicAmounts a_holdings a_report v_companies v_accounts v_reserve v_sortOf v_sums) s.heap := hP
  have hl := lv_entry ([.ref h0, .int p0, .int p1, .int p2, .long p3]) (n := 9) (Nat.le_of_ble_eq_true rfl)
  rw [lg_entry_eq]
  generalize (lg_sl ([.ref h0, .int p0, .int p1, .int p2, .long p3]) ++ List.replicate (9 - (lg_sl ([.ref h0, .int p0, .int p1, .int p2, .long p3])).length) Slot.unset).toArray = ls at hl ⊢
  have hl : lv_has ls 9 [(0, .ref h0), (1, .int p0), (2, .int p1), (3, .int p2), (4, .long p3)] := hl
  unfold wp_D_post at hw
  refine (show ∀ (H : Heap) (locs : List Loc), va_P (dC, dI) classes (WS_D_post cI cL cZ h0 a_currencyOf a_sortOf a_closingRates a_averageRates a_sums a_historicAmounts a_holdings a_report v_companies v_accounts v_reserve v_sortOf v_sums) H → va_S A s.heap H locs → W p l e (headSpec ws_D_post rm_D_post).room s m ([.ref h0, .int p0, .int p1, .int p2, .long p3] : List Value).toArray below meth c H locs 0 0 (MQ below (QC_D_post dC dI cI cL cZ A h0 a_currencyOf a_sortOf a_closingRates a_averageRates a_sums a_historicAmounts a_holdings a_report v_companies v_accounts v_reserve v_sortOf v_sums post) ([.ref h0, .int p0, .int p1, .int p2, .long p3] : List Value).toArray s 0 0 A) (F0 m 0 ls []) from ?_) _ _ hP hS
  intro H locs hP hS
  refine lv_aload_n hx hb d_D_post_0 rfl (lv_at hl 0 rfl) ?_
  refine lv_iload_n hx hb d_D_post_1 rfl (lv_at hl 1 rfl) ?_
  refine lv_iload_n hx hb d_D_post_2 rfl (lv_at hl 2 rfl) ?_
  refine lv_iload_n hx hb d_D_post_3 rfl (lv_at hl 3 rfl) ?_
  refine kx_calli (ws' := fun u4 => (WS_D_post cI cL cZ h0 a_currencyOf a_sortOf a_closingRates a_averageRates a_sums a_historicAmounts a_holdings a_report v_companies v_accounts v_reserve v_sortOf v_sums)) (va_runV (As := [.int p0, .int p1, .int p2]) (rest := []) ⟨hx, hb, hml, hown, hts⟩ (c_D_isPlace l dC dI cI cL cZ h0 a_currencyOf a_sortOf a_closingRates a_averageRates a_sums a_historicAmounts a_holdings a_report v_companies v_accounts v_reserve H.size p0 p1 p2 hw) ⟨(callB_of 3 hts (kx_good iw_197) rfl rfl rfl (hts _ (kx_w iw_1)) (hts _ (kx_w iw_194)) (by decide +kernel) ⟨Nat.le_of_ble_eq_true rfl, Nat.le_of_ble_eq_true rfl⟩), (hts _ (kx_w iw_196)), (hts _ (kx_w sl_D_isPlace))⟩ (kx_preV hN hK hP hD [0] (by decide) rfl 0 rfl rfl) rfl rfl hl.1 rfl (lv_room (Nat.le_of_ble_eq_true rfl)) d_D_post_4 ⟨Nat.le_of_ble_eq_true rfl, Nat.le_of_ble_eq_true rfl⟩) hP hD hS hA [0] [1, 2] rfl rfl (by decide) (by decide) [2, 0, 1] (by decide) (fun _ => rfl) (fun r4 u4 H locs hw hP hD hS => ?_)
  have hP : va_P (dC, dI) classes (WS_D_post cI cL cZ h0 a_currencyOf a_sortOf a_closingRates a_averageRates a_sums a_historicAmounts a_holdings a_report v_companies v_accounts v_reserve v_sortOf v_sums) H := hP
  have hD : va_D A (WS_D_post cI cL cZ h0 a_currencyOf a_sortOf a_closingRates a_averageRates a_sums a_historicAmounts a_holdings a_report v_companies v_accounts v_reserve v_sortOf v_sums) := hD
  refine lv_if_eq (tgt := 19) hx hb d_D_post_7 rfl (fun hc => ?_) (fun hc => ?_)
  ·
    have hw := hw.1 hc
    refine lv_iconst (v := 0) hx hb d_D_post_19 (by decide) ?_
    exact W.zret (v := 0) hx hb hr (by decide) (fun t ht hW => ⟨⟨0, v_sums, rfl, hw, ⟨by rw [ht]; exact hP, hD⟩⟩, hS.F ht⟩) hS.2.2 d_D_post_20
  ·
    have hw := hw.2 hc
    refine lv_aload_n hx hb d_D_post_10 rfl (lv_at hl 0 rfl) ?_
    refine lv_iload_n hx hb d_D_post_11 rfl (lv_at hl 2 rfl) ?_
    refine lv_iload_n hx hb d_D_post_12 rfl (lv_at hl 3 rfl) ?_
    refine kx_calli (ws' := fun u13 => (WS_D_post cI cL cZ h0 a_currencyOf a_sortOf a_closingRates a_averageRates a_sums a_historicAmounts a_holdings a_report v_companies v_accounts v_reserve v_sortOf v_sums)) (va_runV (As := [.int p1, .int p2]) (rest := []) ⟨hx, hb, hml, hown, hts⟩ (c_D_takes l dC dI cI cL cZ h0 a_currencyOf a_sortOf a_closingRates a_averageRates a_sums a_historicAmounts a_holdings a_report v_companies v_accounts v_reserve v_sortOf H.size p1 p2 hw) ⟨(callB_of 2 hts (kx_good iw_209) rfl rfl rfl (hts _ (kx_w iw_1)) (hts _ (kx_w iw_206)) (by decide +kernel) ⟨Nat.le_of_ble_eq_true rfl, Nat.le_of_ble_eq_true rfl⟩), (hts _ (kx_w iw_208)), (hts _ (kx_w sl_D_takes))⟩ (kx_preV hN hK hP hD [0, 1] (by decide) rfl 0 rfl rfl) rfl rfl hl.1 rfl (lv_room (Nat.le_of_ble_eq_true rfl)) d_D_post_13 ⟨Nat.le_of_ble_eq_true rfl, Nat.le_of_ble_eq_true rfl⟩) hP hD hS hA [0, 1] [2] rfl rfl (by decide) (by decide) [1, 2, 0] (by decide) (fun _ => rfl) (fun r13 u13 H locs hw hP hD hS => ?_)
    have hP : va_P (dC, dI) classes (WS_D_post cI cL cZ h0 a_currencyOf a_sortOf a_closingRates a_averageRates a_sums a_historicAmounts a_holdings a_report v_companies v_accounts v_reserve v_sortOf v_sums) H := hP
    have hD : va_D A (WS_D_post cI cL cZ h0 a_currencyOf a_sortOf a_closingRates a_averageRates a_sums a_historicAmounts a_holdings a_report v_companies v_accounts v_reserve v_sortOf v_sums) := hD
    refine lv_if_ne (tgt := 21) hx hb d_D_post_16 rfl (fun hc => ?_) (fun hc => ?_)
    ·
      have hw := hw.1 hc
      refine lv_iload_n hx hb d_D_post_21 rfl (lv_at hl 1 rfl) ?_
      refine lv_iload_n hx hb d_D_post_22 rfl (lv_at hl 3 rfl) ?_
      refine lv_iload_n hx hb d_D_post_23 rfl (lv_at hl 2 rfl) ?_
      refine kx_calli (ws' := fun u24 => (WS_D_post cI cL cZ h0 a_currencyOf a_sortOf a_closingRates a_averageRates a_sums a_historicAmounts a_holdings a_report v_companies v_accounts v_reserve v_sortOf v_sums)) (va_runS (As := [.int p0, .int p2, .int p1]) (rest := []) ⟨hx, hb, hml, hown, hts⟩ (c_D_place l dC dI cI cL cZ  H.size p0 p2 p1 hw) ⟨(callB_of 3 hts (kx_good iw_212) rfl rfl rfl (hts _ (kx_w iw_1)) (hts _ (kx_w iw_210)) (by decide +kernel) ⟨Nat.le_of_ble_eq_true rfl, Nat.le_of_ble_eq_true rfl⟩), (hts _ (kx_w iw_211))⟩ (kx_preS hN hK hP hD [] (by decide) rfl) rfl rfl hl.1 rfl (lv_room (Nat.le_of_ble_eq_true rfl)) d_D_post_24 ⟨Nat.le_of_ble_eq_true rfl, Nat.le_of_ble_eq_true rfl⟩) hP hD hS hA [] [0, 1, 2] rfl rfl (by decide) (by decide) [0, 1, 2] (by decide) (fun _ => rfl) (fun r24 u24 H locs hw hP hD hS => ?_)
      have hP : va_P (dC, dI) classes (WS_D_post cI cL cZ h0 a_currencyOf a_sortOf a_closingRates a_averageRates a_sums a_historicAmounts a_holdings a_report v_companies v_accounts v_reserve v_sortOf v_sums) H := hP
      have hD : va_D A (WS_D_post cI cL cZ h0 a_currencyOf a_sortOf a_closingRates a_averageRates a_sums a_historicAmounts a_holdings a_report v_companies v_accounts v_reserve v_sortOf v_sums) := hD
      refine lv_istore (lv' := [(6, .int r24), (0, .ref h0), (1, .int p0), (2, .int p1), (3, .int p2), (4, .long p3)]) hx hb d_D_post_27 hl (by decide) rfl (fun ls hl => ?_)
      refine lv_aload_n hx hb d_D_post_29 rfl (lv_at hl 1 rfl) ?_
      refine va_get (D := (dC, dI)) (ci := 2) (v := .ref a_sums) (C := R_D) (T := F_D) (N := 11) hx hb hts (kx_in in_D) hown hK hP 0 rfl rfl 7 (by decide) (hts _ (kx_w iw_91)) (fun _ h9 => h9) rfl d_D_post_30 ?_
      refine lv_iload hx hb d_D_post_33 (lv_at hl 0 rfl) ?_
      obtain ⟨hi, hw⟩ := hw
      refine va_lald hx hb hK hP 2 1 rfl rfl hi d_D_post_35 ?_
      refine lv_topl (fun x36 e36 => ?_)
      have hw := hw x36 e36
      refine lv_lstore (lv' := [(7, .long x36), (6, .int r24), (0, .ref h0), (1, .int p0), (2, .int p1), (3, .int p2), (4, .long p3)]) hx hb d_D_post_36 hl (by decide) rfl (fun ls hl => ?_)
      refine lv_lload hx hb d_D_post_38 (lv_at hl 6 rfl) ?_
      refine lv_ldc2 (v := 1000000000000) hx hb hown (hts _ (kx_w iw_213)) d_D_post_40 ?_
      refine lv_lload hx hb d_D_post_43 (lv_at hl 0 rfl) ?_
      refine lv_lsub hx hb d_D_post_45 ?_
      refine W.lcmp hx hb d_D_post_46 ?_
      refine lv_if_gt (tgt := 62) hx hb d_D_post_47 rfl (fun hc => ?_) (fun hc => ?_)
      ·
        have hc := (lc_gt _ _).mp hc
        have hw := hw.1 hc
        refine lv_iconst (v := 0) hx hb d_D_post_62 (by decide) ?_
        exact W.zret (v := 0) hx hb hr (by decide) (fun t ht hW => ⟨⟨0, v_sums, rfl, hw, ⟨by rw [ht]; exact hP, hD⟩⟩, hS.F ht⟩) hS.2.2 d_D_post_63
      ·
        have hc := mt (lc_gt _ _).mpr hc
        have hw := hw.2 hc
        refine lv_lload hx hb d_D_post_50 (lv_at hl 6 rfl) ?_
        refine lv_ldc2 (v := (-1000000000000)) hx hb hown (hts _ (kx_w iw_214)) d_D_post_52 ?_
        refine lv_lload hx hb d_D_post_55 (lv_at hl 0 rfl) ?_
        refine lv_lsub hx hb d_D_post_57 ?_
        refine W.lcmp hx hb d_D_post_58 ?_
        refine lv_if_ge (tgt := 64) hx hb d_D_post_59 rfl (fun hc => ?_) (fun hc => ?_)
        ·
          have hc := (lc_ge _ _).mp hc
          have hw := hw.1 hc
          refine lv_aload_n hx hb d_D_post_64 rfl (lv_at hl 2 rfl) ?_
          refine va_get (D := (dC, dI)) (ci := 2) (v := .ref a_sums) (C := R_D) (T := F_D) (N := 11) hx hb hts (kx_in in_D) hown hK hP 0 rfl rfl 7 (by decide) (hts _ (kx_w iw_91)) (fun _ h9 => h9) rfl d_D_post_65 ?_
          refine lv_iload hx hb d_D_post_68 (lv_at hl 1 rfl) ?_
          refine lv_lload hx hb d_D_post_70 (lv_at hl 0 rfl) ?_
          refine lv_lload hx hb d_D_post_72 (lv_at hl 6 rfl) ?_
          refine lv_ladd hx hb d_D_post_74 ?_
          obtain ⟨hi, hw⟩ := hw
          refine va_last hx hb hK hP hD hS 2 1 rfl rfl hi d_D_post_75 (fun H locs hP hD hS => ?_)
          have hP : va_P (dC, dI) classes (WS_D_post cI cL cZ h0 a_currencyOf a_sortOf a_closingRates a_averageRates a_sums a_historicAmounts a_holdings a_report v_companies v_accounts v_reserve v_sortOf (vp_updL v_sums r24.toNatClampNeg (x36 + p3))) H := hP
          have hD : va_D A (WS_D_post cI cL cZ h0 a_currencyOf a_sortOf a_closingRates a_averageRates a_sums a_historicAmounts a_holdings a_report v_companies v_accounts v_reserve v_sortOf (vp_updL v_sums r24.toNatClampNeg (x36 + p3))) := hD
          refine lv_iconst (v := 1) hx hb d_D_post_76 (by decide) ?_
          exact W.zret (v := 1) hx hb hr (by decide) (fun t ht hW => ⟨⟨1, (vp_updL v_sums r24.toNatClampNeg (x36 + p3)), rfl, hw, ⟨by rw [ht]; exact hP, hD⟩⟩, hS.F ht⟩) hS.2.2 d_D_post_77
        ·
          have hc := mt (lc_ge _ _).mpr hc
          have hw := hw.2 hc
          refine lv_iconst (v := 0) hx hb d_D_post_62 (by decide) ?_
          exact W.zret (v := 0) hx hb hr (by decide) (fun t ht hW => ⟨⟨0, v_sums, rfl, hw, ⟨by rw [ht]; exact hP, hD⟩⟩, hS.F ht⟩) hS.2.2 d_D_post_63
    ·
      have hw := hw.2 hc
      refine lv_iconst (v := 0) hx hb d_D_post_19 (by decide) ?_
      exact W.zret (v := 0) hx hb hr (by decide) (fun t ht hW => ⟨⟨0, v_sums, rfl, hw, ⟨by rw [ht]; exact hP, hD⟩⟩, hS.F ht⟩) hS.2.2 d_D_post_20
/-! ConsolidationDesk.historic(IIJ)Z -/
abbrev y_D_historic : MethodName := ⟨"ConsolidationDesk", "historic", "(IIJ)Z"⟩
theorem d_D_historic_0 : decode prog_1_method_7_code 0 = .ok (.aload_n 0, 1) := by decide +kernel
theorem d_D_historic_1 : decode prog_1_method_7_code 1 = .ok (.iload_n 1, 1) := by decide +kernel
theorem d_D_historic_2 : decode prog_1_method_7_code 2 = .ok (.invokevirtual 58, 3) := by decide +kernel
theorem d_D_historic_5 : decode prog_1_method_7_code 5 = .ok (.ifCond .eq 21, 3) := by decide +kernel
theorem d_D_historic_8 : decode prog_1_method_7_code 8 = .ok (.aload_n 0, 1) := by decide +kernel
theorem d_D_historic_9 : decode prog_1_method_7_code 9 = .ok (.iload_n 2, 1) := by decide +kernel
theorem d_D_historic_10 : decode prog_1_method_7_code 10 = .ok (.invokevirtual 83, 3) := by decide +kernel
theorem d_D_historic_13 : decode prog_1_method_7_code 13 = .ok (.ifCond .eq 13, 3) := by decide +kernel
theorem d_D_historic_16 : decode prog_1_method_7_code 16 = .ok (.aload_n 0, 1) := by decide +kernel
theorem d_D_historic_17 : decode prog_1_method_7_code 17 = .ok (.getfield 20, 3) := by decide +kernel
theorem d_D_historic_20 : decode prog_1_method_7_code 20 = .ok (.iload_n 2, 1) := by decide +kernel
theorem d_D_historic_21 : decode prog_1_method_7_code 21 = .ok (.iaload, 1) := by decide +kernel
theorem d_D_historic_22 : decode prog_1_method_7_code 22 = .ok (.iconst 3, 1) := by decide +kernel
theorem d_D_historic_23 : decode prog_1_method_7_code 23 = .ok (.if_icmp .eq 5, 3) := by decide +kernel
theorem d_D_historic_26 : decode prog_1_method_7_code 26 = .ok (.iconst 0, 1) := by decide +kernel
theorem d_D_historic_27 : decode prog_1_method_7_code 27 = .ok (.ireturn, 1) := by decide +kernel
theorem d_D_historic_28 : decode prog_1_method_7_code 28 = .ok (.lload_n 3, 1) := by decide +kernel
theorem d_D_historic_29 : decode prog_1_method_7_code 29 = .ok (.ldc2_w 79, 3) := by decide +kernel
theorem d_D_historic_32 : decode prog_1_method_7_code 32 = .ok (.lcmp, 1) := by decide +kernel
theorem d_D_historic_33 : decode prog_1_method_7_code 33 = .ok (.ifCond .gt 11, 3) := by decide +kernel
theorem d_D_historic_36 : decode prog_1_method_7_code 36 = .ok (.lload_n 3, 1) := by decide +kernel
theorem d_D_historic_37 : decode prog_1_method_7_code 37 = .ok (.ldc2_w 81, 3) := by decide +kernel
theorem d_D_historic_40 : decode prog_1_method_7_code 40 = .ok (.lcmp, 1) := by decide +kernel
theorem d_D_historic_41 : decode prog_1_method_7_code 41 = .ok (.ifCond .ge 5, 3) := by decide +kernel
theorem d_D_historic_44 : decode prog_1_method_7_code 44 = .ok (.iconst 0, 1) := by decide +kernel
theorem d_D_historic_45 : decode prog_1_method_7_code 45 = .ok (.ireturn, 1) := by decide +kernel
theorem d_D_historic_46 : decode prog_1_method_7_code 46 = .ok (.aload_n 0, 1) := by decide +kernel
theorem d_D_historic_47 : decode prog_1_method_7_code 47 = .ok (.getfield 37, 3) := by decide +kernel
theorem d_D_historic_50 : decode prog_1_method_7_code 50 = .ok (.iload_n 1, 1) := by decide +kernel
theorem d_D_historic_51 : decode prog_1_method_7_code 51 = .ok (.bipush 12, 2) := by decide +kernel
theorem d_D_historic_53 : decode prog_1_method_7_code 53 = .ok (.imul, 1) := by decide +kernel
theorem d_D_historic_54 : decode prog_1_method_7_code 54 = .ok (.iload_n 2, 1) := by decide +kernel
theorem d_D_historic_55 : decode prog_1_method_7_code 55 = .ok (.iadd, 1) := by decide +kernel
theorem d_D_historic_56 : decode prog_1_method_7_code 56 = .ok (.lload_n 3, 1) := by decide +kernel
theorem d_D_historic_57 : decode prog_1_method_7_code 57 = .ok (.lastore, 1) := by decide +kernel
theorem d_D_historic_58 : decode prog_1_method_7_code 58 = .ok (.iconst 1, 1) := by decide +kernel
theorem d_D_historic_59 : decode prog_1_method_7_code 59 = .ok (.ireturn, 1) := by decide +kernel
abbrev WS_D_historic (cI cL cZ : ClassId)  (h0 a_currencyOf a_sortOf a_closingRates a_averageRates a_sums a_historicAmounts a_holdings a_report : Nat) (v_companies : Int32) (v_accounts : Int32) (v_reserve : Int32) (v_sortOf : (Nat → Int32)) (v_historicAmounts : (Nat → Int64)) : va_W := [(h0, .inr (2, [.int v_companies, .ref a_currencyOf, .int v_accounts, .ref a_sortOf, .int v_reserve, .ref a_closingRates, .ref a_averageRates, .ref a_sums, .ref a_historicAmounts, .ref a_holdings, .ref a_report])), (a_sortOf, .inl (cI, 12, .inl v_sortOf)), (a_historicAmounts, .inl (cL, 144, .inr (.inl v_historicAmounts)))]
def wp_D_historic  (p0 : Int32) (p1 : Int32) (p2 : Int64) (v_companies : Int32) (v_accounts : Int32) (v_sortOf : (Nat → Int32)) (v_historicAmounts : (Nat → Int64)) (post : Int32 → (Nat → Int64) → Prop) : Prop := (wp_D_isCompany p0 v_companies (fun (r2 : Int32) (u2 : Unit) => ((r2 = 0 → post 0 v_historicAmounts) ∧ (¬ r2 = 0 → (wp_D_isAccount p1 v_accounts (fun (r10 : Int32) (u10 : Unit) => ((r10 = 0 → post 0 v_historicAmounts) ∧ (¬ r10 = 0 → (vp_in p1 12 ∧ (((v_sortOf p1.toNatClampNeg) = 3 → ((1000000000000 < p2 → post 0 v_historicAmounts) ∧ (¬ 1000000000000 < p2 → (((-1000000000000) ≤ p2 → (vp_in ((p0 * 12) + p1) 144 ∧ post 1 (vp_updL v_historicAmounts (Int32.toNatClampNeg ((p0 * 12) + p1)) p2))) ∧ (¬ (-1000000000000) ≤ p2 → post 0 v_historicAmounts))))) ∧ (¬ (v_sortOf p1.toNatClampNeg) = 3 → post 0 v_historicAmounts)))))))))))
abbrev ws_D_historic : List Cond := .code y_D_historic prog_1_method_7_code 5 (some .boolean) :: kxW
abbrev rm_D_historic : Room := { frames := 1, cells := 0, slots := 0, locals := 21 }
abbrev QC_D_historic (dC : Nat → ClassId) (dI : Nat → Nat → Nat) (cI cL cZ : ClassId) (A : Nat → Prop)  (h0 a_currencyOf a_sortOf a_closingRates a_averageRates a_sums a_historicAmounts a_holdings a_report : Nat) (v_companies : Int32) (v_accounts : Int32) (v_reserve : Int32) (v_sortOf : (Nat → Int32)) (v_historicAmounts : (Nat → Int64)) (post : Int32 → (Nat → Int64) → Prop) : Array Value → State → Outcome → State → Prop := va_Qi post (fun (u : (Nat → Int64)) t => kx_B (dC, dI) classes A (WS_D_historic cI cL cZ h0 a_currencyOf a_sortOf a_closingRates a_averageRates a_sums a_historicAmounts a_holdings a_report v_companies v_accounts v_reserve v_sortOf u) t) A
set_option maxHeartbeats 4000000 in
set_option maxRecDepth 100000 in
theorem c_D_historic (l : Launch) (dC : Nat → ClassId) (dI : Nat → Nat → Nat) (cI cL cZ : ClassId)  (h0 a_currencyOf a_sortOf a_closingRates a_averageRates a_sums a_historicAmounts a_holdings a_report : Nat) (v_companies : Int32) (v_accounts : Int32) (v_reserve : Int32) (v_sortOf : (Nat → Int32)) (v_historicAmounts : (Nat → Int64)) (sz : Nat) (p0 : Int32) (p1 : Int32) (p2 : Int64) {post : Int32 → (Nat → Int64) → Prop} (hw : wp_D_historic p0 p1 p2 v_companies v_accounts v_sortOf v_historicAmounts post) : Met l y_D_historic ws_D_historic rm_D_historic (kx_Pc (dC, dI) classes (kx_T cI cL cZ) (WS_D_historic cI cL cZ h0 a_currencyOf a_sortOf a_closingRates a_averageRates a_sums a_historicAmounts a_holdings a_report v_companies v_accounts v_reserve v_sortOf v_historicAmounts) sz [.ref h0, .int p0, .int p1, .long p2]) (QC_D_historic dC dI cI cL cZ (va_A (WS_D_historic cI cL cZ h0 a_currencyOf a_sortOf a_closingRates a_averageRates a_sums a_historicAmounts a_holdings a_report v_companies v_accounts v_reserve v_sortOf v_historicAmounts) sz) h0 a_currencyOf a_sortOf a_closingRates a_averageRates a_sums a_historicAmounts a_holdings a_report v_companies v_accounts v_reserve v_sortOf v_historicAmounts post) 0 0 (va_A (WS_D_historic cI cL cZ h0 a_currencyOf a_sortOf a_closingRates a_averageRates a_sums a_historicAmounts a_holdings a_report v_companies v_accounts v_reserve v_sortOf v_historicAmounts) sz) := by
  refine Met.ofW (cc := prog_1_method_7_code) (maxL := 5) (ret := (some .boolean)) (by decide) rfl ?_
  intro p e s m args below meth c s₁ B hml hv
  obtain ⟨rfl, hsz, hP, hK, hD0, hN⟩ := hv
  have hx := B.exec
  have hb := B.bytes
  have hr := B.returns
  have hts := atoms_spec (ws := ws_D_historic) B.pre
  have hown : s.vm.findClass R_D = some m.cls := findClass_of_methodNamed B.named
  have hlocks := B.notSynchronized
  subst hsz
  have hD := hD0.self (sz := s.heap.size)
  generalize hAe : va_A (WS_D_historic cI cL cZ h0 a_currencyOf a_sortOf a_closingRates a_averageRates a_sums a_historicAmounts a_holdings a_report v_companies v_accounts v_reserve v_sortOf v_historicAmounts) s.heap.size = A at hD ⊢
  have hA : ∀ q : Nat, s.heap.size ≤ q → A q := fun q h => by rw [← hAe]; exact Or.inr h
  have hS : va_S A s.heap s.heap [] := va_S.rf
  have hP : va_P (dC, dI) classes (WS_D_historic cI cL cZ h0 a_currencyOf a_sortOf a_closingRates a_averageRates a_sums a_historicAmounts a_holdings a_report v_companies v_accounts v_reserve v_sortOf v_historicAmounts) s.heap := hP
  have hl := lv_entry ([.ref h0, .int p0, .int p1, .long p2]) (n := 5) (Nat.le_of_ble_eq_true rfl)
  rw [lg_entry_eq]
  generalize (lg_sl ([.ref h0, .int p0, .int p1, .long p2]) ++ List.replicate (5 - (lg_sl ([.ref h0, .int p0, .int p1, .long p2])).length) Slot.unset).toArray = ls at hl ⊢
  have hl : lv_has ls 5 [(0, .ref h0), (1, .int p0), (2, .int p1), (3, .long p2)] := hl
  unfold wp_D_historic at hw
  refine (show ∀ (H : Heap) (locs : List Loc), va_P (dC, dI) classes (WS_D_historic cI cL cZ h0 a_currencyOf a_sortOf a_closingRates a_averageRates a_sums a_historicAmounts a_holdings a_report v_companies v_accounts v_reserve v_sortOf v_historicAmounts) H → va_S A s.heap H locs → W p l e (headSpec ws_D_historic rm_D_historic).room s m ([.ref h0, .int p0, .int p1, .long p2] : List Value).toArray below meth c H locs 0 0 (MQ below (QC_D_historic dC dI cI cL cZ A h0 a_currencyOf a_sortOf a_closingRates a_averageRates a_sums a_historicAmounts a_holdings a_report v_companies v_accounts v_reserve v_sortOf v_historicAmounts post) ([.ref h0, .int p0, .int p1, .long p2] : List Value).toArray s 0 0 A) (F0 m 0 ls []) from ?_) _ _ hP hS
  intro H locs hP hS
  refine lv_aload_n hx hb d_D_historic_0 rfl (lv_at hl 0 rfl) ?_
  refine lv_iload_n hx hb d_D_historic_1 rfl (lv_at hl 1 rfl) ?_
  refine kx_calli (ws' := fun u2 => (WS_D_historic cI cL cZ h0 a_currencyOf a_sortOf a_closingRates a_averageRates a_sums a_historicAmounts a_holdings a_report v_companies v_accounts v_reserve v_sortOf v_historicAmounts)) (va_runV (As := [.int p0]) (rest := []) ⟨hx, hb, hml, hown, hts⟩ (c_D_isCompany l dC dI cI cL cZ h0 a_currencyOf a_sortOf a_closingRates a_averageRates a_sums a_historicAmounts a_holdings a_report v_companies v_accounts v_reserve H.size p0 hw) ⟨(callB_of 1 hts (kx_good iw_136) rfl rfl rfl (hts _ (kx_w iw_1)) (hts _ (kx_w iw_133)) (by decide +kernel) ⟨Nat.le_of_ble_eq_true rfl, Nat.le_of_ble_eq_true rfl⟩), (hts _ (kx_w iw_135)), (hts _ (kx_w sl_D_isCompany))⟩ (kx_preV hN hK hP hD [0] (by decide) rfl 0 rfl rfl) rfl rfl hl.1 rfl (lv_room (Nat.le_of_ble_eq_true rfl)) d_D_historic_2 ⟨Nat.le_of_ble_eq_true rfl, Nat.le_of_ble_eq_true rfl⟩) hP hD hS hA [0] [1, 2] rfl rfl (by decide) (by decide) [2, 0, 1] (by decide) (fun _ => rfl) (fun r2 u2 H locs hw hP hD hS => ?_)
  have hP : va_P (dC, dI) classes (WS_D_historic cI cL cZ h0 a_currencyOf a_sortOf a_closingRates a_averageRates a_sums a_historicAmounts a_holdings a_report v_companies v_accounts v_reserve v_sortOf v_historicAmounts) H := hP
  have hD : va_D A (WS_D_historic cI cL cZ h0 a_currencyOf a_sortOf a_closingRates a_averageRates a_sums a_historicAmounts a_holdings a_report v_companies v_accounts v_reserve v_sortOf v_historicAmounts) := hD
  refine lv_if_eq (tgt := 26) hx hb d_D_historic_5 rfl (fun hc => ?_) (fun hc => ?_)
  ·
    have hw := hw.1 hc
    refine lv_iconst (v := 0) hx hb d_D_historic_26 (by decide) ?_
    exact W.zret (v := 0) hx hb hr (by decide) (fun t ht hW => ⟨⟨0, v_historicAmounts, rfl, hw, ⟨by rw [ht]; exact hP, hD⟩⟩, hS.F ht⟩) hS.2.2 d_D_historic_27
  ·
    have hw := hw.2 hc
    refine lv_aload_n hx hb d_D_historic_8 rfl (lv_at hl 0 rfl) ?_
    refine lv_iload_n hx hb d_D_historic_9 rfl (lv_at hl 2 rfl) ?_
    refine kx_calli (ws' := fun u10 => (WS_D_historic cI cL cZ h0 a_currencyOf a_sortOf a_closingRates a_averageRates a_sums a_historicAmounts a_holdings a_report v_companies v_accounts v_reserve v_sortOf v_historicAmounts)) (va_runV (As := [.int p1]) (rest := []) ⟨hx, hb, hml, hown, hts⟩ (c_D_isAccount l dC dI cI cL cZ h0 a_currencyOf a_sortOf a_closingRates a_averageRates a_sums a_historicAmounts a_holdings a_report v_companies v_accounts v_reserve H.size p1 hw) ⟨(callB_of 1 hts (kx_good iw_201) rfl rfl rfl (hts _ (kx_w iw_1)) (hts _ (kx_w iw_198)) (by decide +kernel) ⟨Nat.le_of_ble_eq_true rfl, Nat.le_of_ble_eq_true rfl⟩), (hts _ (kx_w iw_200)), (hts _ (kx_w sl_D_isAccount))⟩ (kx_preV hN hK hP hD [0] (by decide) rfl 0 rfl rfl) rfl rfl hl.1 rfl (lv_room (Nat.le_of_ble_eq_true rfl)) d_D_historic_10 ⟨Nat.le_of_ble_eq_true rfl, Nat.le_of_ble_eq_true rfl⟩) hP hD hS hA [0] [1, 2] rfl rfl (by decide) (by decide) [2, 0, 1] (by decide) (fun _ => rfl) (fun r10 u10 H locs hw hP hD hS => ?_)
    have hP : va_P (dC, dI) classes (WS_D_historic cI cL cZ h0 a_currencyOf a_sortOf a_closingRates a_averageRates a_sums a_historicAmounts a_holdings a_report v_companies v_accounts v_reserve v_sortOf v_historicAmounts) H := hP
    have hD : va_D A (WS_D_historic cI cL cZ h0 a_currencyOf a_sortOf a_closingRates a_averageRates a_sums a_historicAmounts a_holdings a_report v_companies v_accounts v_reserve v_sortOf v_historicAmounts) := hD
    refine lv_if_eq (tgt := 26) hx hb d_D_historic_13 rfl (fun hc => ?_) (fun hc => ?_)
    ·
      have hw := hw.1 hc
      refine lv_iconst (v := 0) hx hb d_D_historic_26 (by decide) ?_
      exact W.zret (v := 0) hx hb hr (by decide) (fun t ht hW => ⟨⟨0, v_historicAmounts, rfl, hw, ⟨by rw [ht]; exact hP, hD⟩⟩, hS.F ht⟩) hS.2.2 d_D_historic_27
    ·
      have hw := hw.2 hc
      refine lv_aload_n hx hb d_D_historic_16 rfl (lv_at hl 0 rfl) ?_
      refine va_get (D := (dC, dI)) (ci := 2) (v := .ref a_sortOf) (C := R_D) (T := F_D) (N := 11) hx hb hts (kx_in in_D) hown hK hP 0 rfl rfl 3 (by decide) (hts _ (kx_w iw_87)) (fun _ h9 => h9) rfl d_D_historic_17 ?_
      refine lv_iload_n hx hb d_D_historic_20 rfl (lv_at hl 2 rfl) ?_
      obtain ⟨hi, hw⟩ := hw
      refine va_iald hx hb hK hP 1 0 rfl rfl hi d_D_historic_21 ?_
      refine lv_iconst (v := 3) hx hb d_D_historic_22 (by decide) ?_
      refine lv_icmp_eq (tgt := 28) hx hb d_D_historic_23 rfl (fun hc => ?_) (fun hc => ?_)
      ·
        have hw := hw.1 hc
        refine lv_lload_n hx hb d_D_historic_28 rfl (lv_at hl 3 rfl) ?_
        refine lv_ldc2 (v := 1000000000000) hx hb hown (hts _ (kx_w iw_213)) d_D_historic_29 ?_
        refine W.lcmp hx hb d_D_historic_32 ?_
        refine lv_if_gt (tgt := 44) hx hb d_D_historic_33 rfl (fun hc => ?_) (fun hc => ?_)
        ·
          have hc := (lc_gt _ _).mp hc
          have hw := hw.1 hc
          refine lv_iconst (v := 0) hx hb d_D_historic_44 (by decide) ?_
          exact W.zret (v := 0) hx hb hr (by decide) (fun t ht hW => ⟨⟨0, v_historicAmounts, rfl, hw, ⟨by rw [ht]; exact hP, hD⟩⟩, hS.F ht⟩) hS.2.2 d_D_historic_45
        ·
          have hc := mt (lc_gt _ _).mpr hc
          have hw := hw.2 hc
          refine lv_lload_n hx hb d_D_historic_36 rfl (lv_at hl 3 rfl) ?_
          refine lv_ldc2 (v := (-1000000000000)) hx hb hown (hts _ (kx_w iw_214)) d_D_historic_37 ?_
          refine W.lcmp hx hb d_D_historic_40 ?_
          refine lv_if_ge (tgt := 46) hx hb d_D_historic_41 rfl (fun hc => ?_) (fun hc => ?_)
          ·
            have hc := (lc_ge _ _).mp hc
            have hw := hw.1 hc
            refine lv_aload_n hx hb d_D_historic_46 rfl (lv_at hl 0 rfl) ?_
            refine va_get (D := (dC, dI)) (ci := 2) (v := .ref a_historicAmounts) (C := R_D) (T := F_D) (N := 11) hx hb hts (kx_in in_D) hown hK hP 0 rfl rfl 8 (by decide) (hts _ (kx_w iw_92)) (fun _ h9 => h9) rfl d_D_historic_47 ?_
            refine lv_iload_n hx hb d_D_historic_50 rfl (lv_at hl 1 rfl) ?_
            refine lv_bipush (v := 12) hx hb d_D_historic_51 (by decide) ?_
            refine lv_imul hx hb d_D_historic_53 ?_
            refine lv_iload_n hx hb d_D_historic_54 rfl (lv_at hl 2 rfl) ?_
            refine lv_iadd hx hb d_D_historic_55 ?_
            refine lv_lload_n hx hb d_D_historic_56 rfl (lv_at hl 3 rfl) ?_
            obtain ⟨hi, hw⟩ := hw
            refine va_last hx hb hK hP hD hS 2 1 rfl rfl hi d_D_historic_57 (fun H locs hP hD hS => ?_)
            have hP : va_P (dC, dI) classes (WS_D_historic cI cL cZ h0 a_currencyOf a_sortOf a_closingRates a_averageRates a_sums a_historicAmounts a_holdings a_report v_companies v_accounts v_reserve v_sortOf (vp_updL v_historicAmounts (Int32.toNatClampNeg ((p0 * 12) + p1)) p2)) H := hP
            have hD : va_D A (WS_D_historic cI cL cZ h0 a_currencyOf a_sortOf a_closingRates a_averageRates a_sums a_historicAmounts a_holdings a_report v_companies v_accounts v_reserve v_sortOf (vp_updL v_historicAmounts (Int32.toNatClampNeg ((p0 * 12) + p1)) p2)) := hD
            refine lv_iconst (v := 1) hx hb d_D_historic_58 (by decide) ?_
            exact W.zret (v := 1) hx hb hr (by decide) (fun t ht hW => ⟨⟨1, (vp_updL v_historicAmounts (Int32.toNatClampNeg ((p0 * 12) + p1)) p2), rfl, hw, ⟨by rw [ht]; exact hP, hD⟩⟩, hS.F ht⟩) hS.2.2 d_D_historic_59
          ·
            have hc := mt (lc_ge _ _).mpr hc
            have hw := hw.2 hc
            refine lv_iconst (v := 0) hx hb d_D_historic_44 (by decide) ?_
            exact W.zret (v := 0) hx hb hr (by decide) (fun t ht hW => ⟨⟨0, v_historicAmounts, rfl, hw, ⟨by rw [ht]; exact hP, hD⟩⟩, hS.F ht⟩) hS.2.2 d_D_historic_45
      ·
        have hw := hw.2 hc
        refine lv_iconst (v := 0) hx hb d_D_historic_26 (by decide) ?_
        exact W.zret (v := 0) hx hb hr (by decide) (fun t ht hW => ⟨⟨0, v_historicAmounts, rfl, hw, ⟨by rw [ht]; exact hP, hD⟩⟩, hS.F ht⟩) hS.2.2 d_D_historic_27
/-! ConsolidationDesk.bookTotal(I)J -/
abbrev y_D_bookTotal : MethodName := ⟨"ConsolidationDesk", "bookTotal", "(I)J"⟩
theorem d_D_bookTotal_0 : decode prog_1_method_26_code 0 = .ok (.lconst 0, 1) := by decide +kernel
theorem d_D_bookTotal_1 : decode prog_1_method_26_code 1 = .ok (.lstore_n 2, 1) := by decide +kernel
theorem d_D_bookTotal_2 : decode prog_1_method_26_code 2 = .ok (.iconst (-1), 1) := by decide +kernel
theorem d_D_bookTotal_3 : decode prog_1_method_26_code 3 = .ok (.istore 4, 2) := by decide +kernel
theorem d_D_bookTotal_5 : decode prog_1_method_26_code 5 = .ok (.iload 4, 2) := by decide +kernel
theorem d_D_bookTotal_7 : decode prog_1_method_26_code 7 = .ok (.aload_n 0, 1) := by decide +kernel
theorem d_D_bookTotal_8 : decode prog_1_method_26_code 8 = .ok (.getfield 9, 3) := by decide +kernel
theorem d_D_bookTotal_11 : decode prog_1_method_26_code 11 = .ok (.if_icmp .ge 43, 3) := by decide +kernel
theorem d_D_bookTotal_14 : decode prog_1_method_26_code 14 = .ok (.iconst 0, 1) := by decide +kernel
theorem d_D_bookTotal_15 : decode prog_1_method_26_code 15 = .ok (.istore 5, 2) := by decide +kernel
theorem d_D_bookTotal_17 : decode prog_1_method_26_code 17 = .ok (.iload 5, 2) := by decide +kernel
theorem d_D_bookTotal_19 : decode prog_1_method_26_code 19 = .ok (.aload_n 0, 1) := by decide +kernel
theorem d_D_bookTotal_20 : decode prog_1_method_26_code 20 = .ok (.getfield 17, 3) := by decide +kernel
theorem d_D_bookTotal_23 : decode prog_1_method_26_code 23 = .ok (.if_icmp .ge 25, 3) := by decide +kernel
theorem d_D_bookTotal_26 : decode prog_1_method_26_code 26 = .ok (.lload_n 2, 1) := by decide +kernel
theorem d_D_bookTotal_27 : decode prog_1_method_26_code 27 = .ok (.aload_n 0, 1) := by decide +kernel
theorem d_D_bookTotal_28 : decode prog_1_method_26_code 28 = .ok (.getfield 33, 3) := by decide +kernel
theorem d_D_bookTotal_31 : decode prog_1_method_26_code 31 = .ok (.iload_n 1, 1) := by decide +kernel
theorem d_D_bookTotal_32 : decode prog_1_method_26_code 32 = .ok (.iload 4, 2) := by decide +kernel
theorem d_D_bookTotal_34 : decode prog_1_method_26_code 34 = .ok (.iload 5, 2) := by decide +kernel
theorem d_D_bookTotal_36 : decode prog_1_method_26_code 36 = .ok (.invokestatic 75, 3) := by decide +kernel
theorem d_D_bookTotal_39 : decode prog_1_method_26_code 39 = .ok (.laload, 1) := by decide +kernel
theorem d_D_bookTotal_40 : decode prog_1_method_26_code 40 = .ok (.ladd, 1) := by decide +kernel
theorem d_D_bookTotal_41 : decode prog_1_method_26_code 41 = .ok (.lstore_n 2, 1) := by decide +kernel
theorem d_D_bookTotal_42 : decode prog_1_method_26_code 42 = .ok (.iinc 5 1, 3) := by decide +kernel
theorem d_D_bookTotal_45 : decode prog_1_method_26_code 45 = .ok (.goto (-28), 3) := by decide +kernel
theorem d_D_bookTotal_48 : decode prog_1_method_26_code 48 = .ok (.iinc 4 1, 3) := by decide +kernel
theorem d_D_bookTotal_51 : decode prog_1_method_26_code 51 = .ok (.goto (-46), 3) := by decide +kernel
theorem d_D_bookTotal_54 : decode prog_1_method_26_code 54 = .ok (.lload_n 2, 1) := by decide +kernel
theorem d_D_bookTotal_55 : decode prog_1_method_26_code 55 = .ok (.lreturn, 1) := by decide +kernel
abbrev WS_D_bookTotal (cI cL cZ : ClassId)  (h0 a_currencyOf a_sortOf a_closingRates a_averageRates a_sums a_historicAmounts a_holdings a_report : Nat) (v_companies : Int32) (v_accounts : Int32) (v_reserve : Int32) (v_sums : (Nat → Int64)) : va_W := [(h0, .inr (2, [.int v_companies, .ref a_currencyOf, .int v_accounts, .ref a_sortOf, .int v_reserve, .ref a_closingRates, .ref a_averageRates, .ref a_sums, .ref a_historicAmounts, .ref a_holdings, .ref a_report])), (a_sums, .inl (cL, 1872, .inr (.inl v_sums)))]
def wp_D_bookTotal  (p0 : Int32) (v_companies : Int32) (v_accounts : Int32) (v_sums : (Nat → Int64)) (post : Int64 → Unit → Prop) : Prop := (∃ (I5 : Int64 → Int32 → Prop) (μ5 : Int64 → Int32 → Nat), I5 0 (-1) ∧ ∀ (l2_5 : Int64) (l4_5 : Int32), I5 l2_5 l4_5 → ((v_companies ≤ l4_5 → post l2_5 ()) ∧ (¬ v_companies ≤ l4_5 → (∃ (I17 : Int64 → Int32 → Prop) (μ17 : Int64 → Int32 → Nat), I17 l2_5 0 ∧ ∀ (l2_17 : Int64) (l5_17 : Int32), I17 l2_17 l5_17 → ((v_accounts ≤ l5_17 → I5 l2_17 (l4_5 + 1) ∧ μ5 l2_17 (l4_5 + 1) < μ5 l2_5 l4_5) ∧ (¬ v_accounts ≤ l5_17 → (wp_D_place p0 l4_5 l5_17 (fun (r36 : Int32) (u36 : Unit) => (vp_in r36 1872 ∧ (∀ x41 : Int64, x41 = (l2_17 + (v_sums r36.toNatClampNeg)) → I17 x41 (l5_17 + 1) ∧ μ17 x41 (l5_17 + 1) < μ17 l2_17 l5_17))))))))))
abbrev ws_D_bookTotal : List Cond := .code y_D_bookTotal prog_1_method_26_code 6 (some .long) :: kxW
abbrev rm_D_bookTotal : Room := { frames := 1, cells := 0, slots := 0, locals := 22 }
abbrev QC_D_bookTotal (dC : Nat → ClassId) (dI : Nat → Nat → Nat) (cI cL cZ : ClassId) (A : Nat → Prop)  (h0 a_currencyOf a_sortOf a_closingRates a_averageRates a_sums a_historicAmounts a_holdings a_report : Nat) (v_companies : Int32) (v_accounts : Int32) (v_reserve : Int32) (v_sums : (Nat → Int64)) (post : Int64 → Unit → Prop) : Array Value → State → Outcome → State → Prop := va_Ql post (fun (u : Unit) t => kx_B (dC, dI) classes A (WS_D_bookTotal cI cL cZ h0 a_currencyOf a_sortOf a_closingRates a_averageRates a_sums a_historicAmounts a_holdings a_report v_companies v_accounts v_reserve v_sums) t) A
set_option maxHeartbeats 4000000 in
set_option maxRecDepth 100000 in
theorem c_D_bookTotal (l : Launch) (dC : Nat → ClassId) (dI : Nat → Nat → Nat) (cI cL cZ : ClassId)  (h0 a_currencyOf a_sortOf a_closingRates a_averageRates a_sums a_historicAmounts a_holdings a_report : Nat) (v_companies : Int32) (v_accounts : Int32) (v_reserve : Int32) (v_sums : (Nat → Int64)) (sz : Nat) (p0 : Int32) {post : Int64 → Unit → Prop} (hw : wp_D_bookTotal p0 v_companies v_accounts v_sums post) : Met l y_D_bookTotal ws_D_bookTotal rm_D_bookTotal (kx_Pc (dC, dI) classes (kx_T cI cL cZ) (WS_D_bookTotal cI cL cZ h0 a_currencyOf a_sortOf a_closingRates a_averageRates a_sums a_historicAmounts a_holdings a_report v_companies v_accounts v_reserve v_sums) sz [.ref h0, .int p0]) (QC_D_bookTotal dC dI cI cL cZ (va_A (WS_D_bookTotal cI cL cZ h0 a_currencyOf a_sortOf a_closingRates a_averageRates a_sums a_historicAmounts a_holdings a_report v_companies v_accounts v_reserve v_sums) sz) h0 a_currencyOf a_sortOf a_closingRates a_averageRates a_sums a_historicAmounts a_holdings a_report v_companies v_accounts v_reserve v_sums post) 0 0 (va_A (WS_D_bookTotal cI cL cZ h0 a_currencyOf a_sortOf a_closingRates a_averageRates a_sums a_historicAmounts a_holdings a_report v_companies v_accounts v_reserve v_sums) sz) := by
  refine Met.ofW (cc := prog_1_method_26_code) (maxL := 6) (ret := (some .long)) (by decide) rfl ?_
  intro p e s m args below meth c s₁ B hml hv
  obtain ⟨rfl, hsz, hP, hK, hD0, hN⟩ := hv
  have hx := B.exec
  have hb := B.bytes
  have hr := B.returns
  have hts := atoms_spec (ws := ws_D_bookTotal) B.pre
  have hown : s.vm.findClass R_D = some m.cls := findClass_of_methodNamed B.named
  have hlocks := B.notSynchronized
  subst hsz
  have hD := hD0.self (sz := s.heap.size)
  generalize hAe : va_A (WS_D_bookTotal cI cL cZ h0 a_currencyOf a_sortOf a_closingRates a_averageRates a_sums a_historicAmounts a_holdings a_report v_companies v_accounts v_reserve v_sums) s.heap.size = A at hD ⊢
  have hA : ∀ q : Nat, s.heap.size ≤ q → A q := fun q h => by rw [← hAe]; exact Or.inr h
  have hS : va_S A s.heap s.heap [] := va_S.rf
  have hP : va_P (dC, dI) classes (WS_D_bookTotal cI cL cZ h0 a_currencyOf a_sortOf a_closingRates a_averageRates a_sums a_historicAmounts a_holdings a_report v_companies v_accounts v_reserve v_sums) s.heap := hP
  have hl := lv_entry ([.ref h0, .int p0]) (n := 6) (Nat.le_of_ble_eq_true rfl)
  rw [lg_entry_eq]
  generalize (lg_sl ([.ref h0, .int p0]) ++ List.replicate (6 - (lg_sl ([.ref h0, .int p0])).length) Slot.unset).toArray = ls at hl ⊢
  have hl : lv_has ls 6 [(0, .ref h0), (1, .int p0)] := hl
  unfold wp_D_bookTotal at hw
  refine (show ∀ (H : Heap) (locs : List Loc), va_P (dC, dI) classes (WS_D_bookTotal cI cL cZ h0 a_currencyOf a_sortOf a_closingRates a_averageRates a_sums a_historicAmounts a_holdings a_report v_companies v_accounts v_reserve v_sums) H → va_S A s.heap H locs → W p l e (headSpec ws_D_bookTotal rm_D_bookTotal).room s m ([.ref h0, .int p0] : List Value).toArray below meth c H locs 0 0 (MQ below (QC_D_bookTotal dC dI cI cL cZ A h0 a_currencyOf a_sortOf a_closingRates a_averageRates a_sums a_historicAmounts a_holdings a_report v_companies v_accounts v_reserve v_sums post) ([.ref h0, .int p0] : List Value).toArray s 0 0 A) (F0 m 0 ls []) from ?_) _ _ hP hS
  intro H locs hP hS
  refine lv_lconst (v := 0) hx hb d_D_bookTotal_0 (by decide) ?_
  refine lv_lstore_n (lv' := [(2, .long 0), (0, .ref h0), (1, .int p0)]) hx hb d_D_bookTotal_1 rfl hl (by decide) rfl (fun ls hl => ?_)
  refine lv_iconst (v := (-1)) hx hb d_D_bookTotal_2 (by decide) ?_
  refine lv_istore (lv' := [(4, .int (-1)), (2, .long 0), (0, .ref h0), (1, .int p0)]) hx hb d_D_bookTotal_3 hl (by decide) rfl (fun ls hl => ?_)
  have hl := lv_sub hl [2, 3, 1, 0] rfl
  obtain ⟨I5, μ5, hi5, hs5⟩ := hw
  have L5 : ∀ (n : Nat) (l2_5 : Int64) (l4_5 : Int32) (H : Heap) (locs : List Loc) (ls : Array Slot), μ5 l2_5 l4_5 < n → I5 l2_5 l4_5 → lv_has ls 6 [(0, .ref h0), (1, .int p0), (2, .long l2_5), (4, .int l4_5)] → va_P (dC, dI) classes (WS_D_bookTotal cI cL cZ h0 a_currencyOf a_sortOf a_closingRates a_averageRates a_sums a_historicAmounts a_holdings a_report v_companies v_accounts v_reserve v_sums) H → va_D A (WS_D_bookTotal cI cL cZ h0 a_currencyOf a_sortOf a_closingRates a_averageRates a_sums a_historicAmounts a_holdings a_report v_companies v_accounts v_reserve v_sums) → va_S A s.heap H locs → W p l e (headSpec ws_D_bookTotal rm_D_bookTotal).room s m ([.ref h0, .int p0] : List Value).toArray below meth c H locs 0 0 (MQ below (QC_D_bookTotal dC dI cI cL cZ A h0 a_currencyOf a_sortOf a_closingRates a_averageRates a_sums a_historicAmounts a_holdings a_report v_companies v_accounts v_reserve v_sums post) ([.ref h0, .int p0] : List Value).toArray s 0 0 A) (F0 m 5 ls []) := by
    intro n
    induction n with
    | zero => intro l2_5 l4_5 H locs ls hn; exact absurd hn (Nat.not_lt_zero _)
    | succ n ih5 =>
      intro l2_5 l4_5 H locs ls hn5 hI hl hP hD hS
      have hw := hs5 l2_5 l4_5 hI
      refine lv_iload hx hb d_D_bookTotal_5 (lv_at hl 3 rfl) ?_
      refine lv_aload_n hx hb d_D_bookTotal_7 rfl (lv_at hl 0 rfl) ?_
      refine va_get (D := (dC, dI)) (ci := 2) (v := .int v_companies) (C := R_D) (T := F_D) (N := 11) hx hb hts (kx_in in_D) hown hK hP 0 rfl rfl 0 (by decide) (hts _ (kx_w iw_84)) (fun _ h9 => h9) rfl d_D_bookTotal_8 ?_
      refine lv_icmp_ge (tgt := 54) hx hb d_D_bookTotal_11 rfl (fun hc => ?_) (fun hc => ?_)
      ·
        have hw := hw.1 hc
        refine lv_lload_n hx hb d_D_bookTotal_54 rfl (lv_at hl 2 rfl) ?_
        exact W.lret (v := l2_5) hx hb hr (fun t ht hW => ⟨⟨l2_5, (), rfl, hw, ⟨by rw [ht]; exact hP, hD⟩⟩, hS.F ht⟩) hS.2.2 d_D_bookTotal_55
      ·
        have hw := hw.2 hc
        refine lv_iconst (v := 0) hx hb d_D_bookTotal_14 (by decide) ?_
        refine lv_istore (lv' := [(5, .int 0), (0, .ref h0), (1, .int p0), (2, .long l2_5), (4, .int l4_5)]) hx hb d_D_bookTotal_15 hl (by decide) rfl (fun ls hl => ?_)
        have hl := lv_sub hl [1, 2, 3, 4, 0] rfl
        obtain ⟨I17, μ17, hi17, hs17⟩ := hw
        have L17 : ∀ (n : Nat) (l2_17 : Int64) (l5_17 : Int32) (H : Heap) (locs : List Loc) (ls : Array Slot), μ17 l2_17 l5_17 < n → I17 l2_17 l5_17 → lv_has ls 6 [(0, .ref h0), (1, .int p0), (2, .long l2_17), (4, .int l4_5), (5, .int l5_17)] → va_P (dC, dI) classes (WS_D_bookTotal cI cL cZ h0 a_currencyOf a_sortOf a_closingRates a_averageRates a_sums a_historicAmounts a_holdings a_report v_companies v_accounts v_reserve v_sums) H → va_D A (WS_D_bookTotal cI cL cZ h0 a_currencyOf a_sortOf a_closingRates a_averageRates a_sums a_historicAmounts a_holdings a_report v_companies v_accounts v_reserve v_sums) → va_S A s.heap H locs → W p l e (headSpec ws_D_bookTotal rm_D_bookTotal).room s m ([.ref h0, .int p0] : List Value).toArray below meth c H locs 0 0 (MQ below (QC_D_bookTotal dC dI cI cL cZ A h0 a_currencyOf a_sortOf a_closingRates a_averageRates a_sums a_historicAmounts a_holdings a_report v_companies v_accounts v_reserve v_sums post) ([.ref h0, .int p0] : List Value).toArray s 0 0 A) (F0 m 17 ls []) := by
          intro n
          induction n with
          | zero => intro l2_17 l5_17 H locs ls hn; exact absurd hn (Nat.not_lt_zero _)
          | succ n ih17 =>
            intro l2_17 l5_17 H locs ls hn17 hI hl hP hD hS
            have hw := hs17 l2_17 l5_17 hI
            refine lv_iload hx hb d_D_bookTotal_17 (lv_at hl 4 rfl) ?_
            refine lv_aload_n hx hb d_D_bookTotal_19 rfl (lv_at hl 0 rfl) ?_
            refine va_get (D := (dC, dI)) (ci := 2) (v := .int v_accounts) (C := R_D) (T := F_D) (N := 11) hx hb hts (kx_in in_D) hown hK hP 0 rfl rfl 2 (by decide) (hts _ (kx_w iw_86)) (fun _ h9 => h9) rfl d_D_bookTotal_20 ?_
            refine lv_icmp_ge (tgt := 48) hx hb d_D_bookTotal_23 rfl (fun hc => ?_) (fun hc => ?_)
            ·
              have hw := hw.1 hc
              refine lv_iinc (v := (l4_5 + 1)) (lv' := [(4, .int (l4_5 + 1)), (0, .ref h0), (1, .int p0), (2, .long l2_17), (5, .int l5_17)]) hx hb d_D_bookTotal_48 hl (k := 3) rfl rfl (by decide) rfl (fun ls hl => ?_)
              refine lv_goto (tgt := 5) hx hb d_D_bookTotal_51 rfl ?_
              have hl := lv_sub hl [1, 2, 3, 0] rfl
              exact ih5 l2_17 (l4_5 + 1) _ _ _ (Nat.lt_of_lt_of_le hw.2 (Nat.le_of_lt_succ hn5)) hw.1 hl hP hD hS
            ·
              have hw := hw.2 hc
              refine lv_lload_n hx hb d_D_bookTotal_26 rfl (lv_at hl 2 rfl) ?_
              refine lv_aload_n hx hb d_D_bookTotal_27 rfl (lv_at hl 0 rfl) ?_
              refine va_get (D := (dC, dI)) (ci := 2) (v := .ref a_sums) (C := R_D) (T := F_D) (N := 11) hx hb hts (kx_in in_D) hown hK hP 0 rfl rfl 7 (by decide) (hts _ (kx_w iw_91)) (fun _ h9 => h9) rfl d_D_bookTotal_28 ?_
              refine lv_iload_n hx hb d_D_bookTotal_31 rfl (lv_at hl 1 rfl) ?_
              refine lv_iload hx hb d_D_bookTotal_32 (lv_at hl 3 rfl) ?_
              refine lv_iload hx hb d_D_bookTotal_34 (lv_at hl 4 rfl) ?_
              refine kx_calli (ws' := fun u36 => (WS_D_bookTotal cI cL cZ h0 a_currencyOf a_sortOf a_closingRates a_averageRates a_sums a_historicAmounts a_holdings a_report v_companies v_accounts v_reserve v_sums)) (va_runS (As := [.int p0, .int l4_5, .int l5_17]) (rest := [.ref a_sums, .long l2_17]) ⟨hx, hb, hml, hown, hts⟩ (c_D_place l dC dI cI cL cZ  H.size p0 l4_5 l5_17 hw) ⟨(callB_of 3 hts (kx_good iw_212) rfl rfl rfl (hts _ (kx_w iw_1)) (hts _ (kx_w iw_210)) (by decide +kernel) ⟨Nat.le_of_ble_eq_true rfl, Nat.le_of_ble_eq_true rfl⟩), (hts _ (kx_w iw_211))⟩ (kx_preS hN hK hP hD [] (by decide) rfl) rfl rfl hl.1 rfl (lv_room (Nat.le_of_ble_eq_true rfl)) d_D_bookTotal_36 ⟨Nat.le_of_ble_eq_true rfl, Nat.le_of_ble_eq_true rfl⟩) hP hD hS hA [] [0, 1] rfl rfl (by decide) (by decide) [0, 1] (by decide) (fun _ => rfl) (fun r36 u36 H locs hw hP hD hS => ?_)
              have hP : va_P (dC, dI) classes (WS_D_bookTotal cI cL cZ h0 a_currencyOf a_sortOf a_closingRates a_averageRates a_sums a_historicAmounts a_holdings a_report v_companies v_accounts v_reserve v_sums) H := hP
              have hD : va_D A (WS_D_bookTotal cI cL cZ h0 a_currencyOf a_sortOf a_closingRates a_averageRates a_sums a_historicAmounts a_holdings a_report v_companies v_accounts v_reserve v_sums) := hD
              obtain ⟨hi, hw⟩ := hw
              refine va_lald hx hb hK hP 1 1 rfl rfl hi d_D_bookTotal_39 ?_
              refine lv_ladd hx hb d_D_bookTotal_40 ?_
              refine lv_topl (fun x41 e41 => ?_)
              have hw := hw x41 e41
              refine lv_lstore_n (lv' := [(2, .long x41), (0, .ref h0), (1, .int p0), (4, .int l4_5), (5, .int l5_17)]) hx hb d_D_bookTotal_41 rfl hl (by decide) rfl (fun ls hl => ?_)
              refine lv_iinc (v := (l5_17 + 1)) (lv' := [(5, .int (l5_17 + 1)), (2, .long x41), (0, .ref h0), (1, .int p0), (4, .int l4_5)]) hx hb d_D_bookTotal_42 hl (k := 4) rfl rfl (by decide) rfl (fun ls hl => ?_)
              refine lv_goto (tgt := 17) hx hb d_D_bookTotal_45 rfl ?_
              have hl := lv_sub hl [2, 3, 1, 4, 0] rfl
              exact ih17 x41 (l5_17 + 1) _ _ _ (Nat.lt_of_lt_of_le hw.2 (Nat.le_of_lt_succ hn17)) hw.1 hl hP hD hS
        exact L17 _ l2_5 0 _ _ _ (Nat.lt_succ_self _) hi17 hl hP hD hS
  exact L5 _ 0 (-1) _ _ _ (Nat.lt_succ_self _) hi5 hl hP hD hS
/-! ConsolidationDesk.isBalanced(I)I -/
abbrev y_D_isBalanced : MethodName := ⟨"ConsolidationDesk", "isBalanced", "(I)I"⟩
theorem d_D_isBalanced_0 : decode prog_1_method_9_code 0 = .ok (.aload_n 0, 1) := by decide +kernel
theorem d_D_isBalanced_1 : decode prog_1_method_9_code 1 = .ok (.iload_n 1, 1) := by decide +kernel
theorem d_D_isBalanced_2 : decode prog_1_method_9_code 2 = .ok (.invokevirtual 58, 3) := by decide +kernel
theorem d_D_isBalanced_5 : decode prog_1_method_9_code 5 = .ok (.ifCond .ne 5, 3) := by decide +kernel
theorem d_D_isBalanced_8 : decode prog_1_method_9_code 8 = .ok (.iconst (-1), 1) := by decide +kernel
theorem d_D_isBalanced_9 : decode prog_1_method_9_code 9 = .ok (.ireturn, 1) := by decide +kernel
theorem d_D_isBalanced_10 : decode prog_1_method_9_code 10 = .ok (.aload_n 0, 1) := by decide +kernel
theorem d_D_isBalanced_11 : decode prog_1_method_9_code 11 = .ok (.iload_n 1, 1) := by decide +kernel
theorem d_D_isBalanced_12 : decode prog_1_method_9_code 12 = .ok (.invokevirtual 89, 3) := by decide +kernel
theorem d_D_isBalanced_15 : decode prog_1_method_9_code 15 = .ok (.lconst 0, 1) := by decide +kernel
theorem d_D_isBalanced_16 : decode prog_1_method_9_code 16 = .ok (.lcmp, 1) := by decide +kernel
theorem d_D_isBalanced_17 : decode prog_1_method_9_code 17 = .ok (.ifCond .ne 7, 3) := by decide +kernel
theorem d_D_isBalanced_20 : decode prog_1_method_9_code 20 = .ok (.iconst 1, 1) := by decide +kernel
theorem d_D_isBalanced_21 : decode prog_1_method_9_code 21 = .ok (.goto 4, 3) := by decide +kernel
theorem d_D_isBalanced_24 : decode prog_1_method_9_code 24 = .ok (.iconst 0, 1) := by decide +kernel
theorem d_D_isBalanced_25 : decode prog_1_method_9_code 25 = .ok (.ireturn, 1) := by decide +kernel
abbrev WS_D_isBalanced (cI cL cZ : ClassId)  (h0 a_currencyOf a_sortOf a_closingRates a_averageRates a_sums a_historicAmounts a_holdings a_report : Nat) (v_companies : Int32) (v_accounts : Int32) (v_reserve : Int32) (v_sums : (Nat → Int64)) : va_W := [(h0, .inr (2, [.int v_companies, .ref a_currencyOf, .int v_accounts, .ref a_sortOf, .int v_reserve, .ref a_closingRates, .ref a_averageRates, .ref a_sums, .ref a_historicAmounts, .ref a_holdings, .ref a_report])), (a_sums, .inl (cL, 1872, .inr (.inl v_sums)))]
def wp_D_isBalanced  (p0 : Int32) (v_companies : Int32) (v_accounts : Int32) (v_sums : (Nat → Int64)) (post : Int32 → Unit → Prop) : Prop := (wp_D_isCompany p0 v_companies (fun (r2 : Int32) (u2 : Unit) => ((¬ r2 = 0 → (wp_D_bookTotal p0 v_companies v_accounts v_sums (fun (r12 : Int64) (u12 : Unit) => ((¬ r12 = 0 → post 0 ()) ∧ (r12 = 0 → post 1 ()))))) ∧ (r2 = 0 → post (-1) ()))))
abbrev ws_D_isBalanced : List Cond := .code y_D_isBalanced prog_1_method_9_code 2 (some .int) :: kxW
abbrev rm_D_isBalanced : Room := { frames := 2, cells := 0, slots := 0, locals := 47 }
abbrev QC_D_isBalanced (dC : Nat → ClassId) (dI : Nat → Nat → Nat) (cI cL cZ : ClassId) (A : Nat → Prop)  (h0 a_currencyOf a_sortOf a_closingRates a_averageRates a_sums a_historicAmounts a_holdings a_report : Nat) (v_companies : Int32) (v_accounts : Int32) (v_reserve : Int32) (v_sums : (Nat → Int64)) (post : Int32 → Unit → Prop) : Array Value → State → Outcome → State → Prop := va_Qi post (fun (u : Unit) t => kx_B (dC, dI) classes A (WS_D_isBalanced cI cL cZ h0 a_currencyOf a_sortOf a_closingRates a_averageRates a_sums a_historicAmounts a_holdings a_report v_companies v_accounts v_reserve v_sums) t) A
set_option maxHeartbeats 4000000 in
set_option maxRecDepth 100000 in
theorem c_D_isBalanced (l : Launch) (dC : Nat → ClassId) (dI : Nat → Nat → Nat) (cI cL cZ : ClassId)  (h0 a_currencyOf a_sortOf a_closingRates a_averageRates a_sums a_historicAmounts a_holdings a_report : Nat) (v_companies : Int32) (v_accounts : Int32) (v_reserve : Int32) (v_sums : (Nat → Int64)) (sz : Nat) (p0 : Int32) {post : Int32 → Unit → Prop} (hw : wp_D_isBalanced p0 v_companies v_accounts v_sums post) : Met l y_D_isBalanced ws_D_isBalanced rm_D_isBalanced (kx_Pc (dC, dI) classes (kx_T cI cL cZ) (WS_D_isBalanced cI cL cZ h0 a_currencyOf a_sortOf a_closingRates a_averageRates a_sums a_historicAmounts a_holdings a_report v_companies v_accounts v_reserve v_sums) sz [.ref h0, .int p0]) (QC_D_isBalanced dC dI cI cL cZ (va_A (WS_D_isBalanced cI cL cZ h0 a_currencyOf a_sortOf a_closingRates a_averageRates a_sums a_historicAmounts a_holdings a_report v_companies v_accounts v_reserve v_sums) sz) h0 a_currencyOf a_sortOf a_closingRates a_averageRates a_sums a_historicAmounts a_holdings a_report v_companies v_accounts v_reserve v_sums post) 0 0 (va_A (WS_D_isBalanced cI cL cZ h0 a_currencyOf a_sortOf a_closingRates a_averageRates a_sums a_historicAmounts a_holdings a_report v_companies v_accounts v_reserve v_sums) sz) := by
  refine Met.ofW (cc := prog_1_method_9_code) (maxL := 2) (ret := (some .int)) (by decide) rfl ?_
  intro p e s m args below meth c s₁ B hml hv
  obtain ⟨rfl, hsz, hP, hK, hD0, hN⟩ := hv
  have hx := B.exec
  have hb := B.bytes
  have hr := B.returns
  have hts := atoms_spec (ws := ws_D_isBalanced) B.pre
  have hown : s.vm.findClass R_D = some m.cls := findClass_of_methodNamed B.named
  have hlocks := B.notSynchronized
  subst hsz
  have hD := hD0.self (sz := s.heap.size)
  generalize hAe : va_A (WS_D_isBalanced cI cL cZ h0 a_currencyOf a_sortOf a_closingRates a_averageRates a_sums a_historicAmounts a_holdings a_report v_companies v_accounts v_reserve v_sums) s.heap.size = A at hD ⊢
  have hA : ∀ q : Nat, s.heap.size ≤ q → A q := fun q h => by rw [← hAe]; exact Or.inr h
  have hS : va_S A s.heap s.heap [] := va_S.rf
  have hP : va_P (dC, dI) classes (WS_D_isBalanced cI cL cZ h0 a_currencyOf a_sortOf a_closingRates a_averageRates a_sums a_historicAmounts a_holdings a_report v_companies v_accounts v_reserve v_sums) s.heap := hP
  have hl := lv_entry ([.ref h0, .int p0]) (n := 2) (Nat.le_of_ble_eq_true rfl)
  rw [lg_entry_eq]
  generalize (lg_sl ([.ref h0, .int p0]) ++ List.replicate (2 - (lg_sl ([.ref h0, .int p0])).length) Slot.unset).toArray = ls at hl ⊢
  have hl : lv_has ls 2 [(0, .ref h0), (1, .int p0)] := hl
  unfold wp_D_isBalanced at hw
  refine (show ∀ (H : Heap) (locs : List Loc), va_P (dC, dI) classes (WS_D_isBalanced cI cL cZ h0 a_currencyOf a_sortOf a_closingRates a_averageRates a_sums a_historicAmounts a_holdings a_report v_companies v_accounts v_reserve v_sums) H → va_S A s.heap H locs → W p l e (headSpec ws_D_isBalanced rm_D_isBalanced).room s m ([.ref h0, .int p0] : List Value).toArray below meth c H locs 0 0 (MQ below (QC_D_isBalanced dC dI cI cL cZ A h0 a_currencyOf a_sortOf a_closingRates a_averageRates a_sums a_historicAmounts a_holdings a_report v_companies v_accounts v_reserve v_sums post) ([.ref h0, .int p0] : List Value).toArray s 0 0 A) (F0 m 0 ls []) from ?_) _ _ hP hS
  intro H locs hP hS
  refine lv_aload_n hx hb d_D_isBalanced_0 rfl (lv_at hl 0 rfl) ?_
  refine lv_iload_n hx hb d_D_isBalanced_1 rfl (lv_at hl 1 rfl) ?_
  refine kx_calli (ws' := fun u2 => (WS_D_isBalanced cI cL cZ h0 a_currencyOf a_sortOf a_closingRates a_averageRates a_sums a_historicAmounts a_holdings a_report v_companies v_accounts v_reserve v_sums)) (va_runV (As := [.int p0]) (rest := []) ⟨hx, hb, hml, hown, hts⟩ (c_D_isCompany l dC dI cI cL cZ h0 a_currencyOf a_sortOf a_closingRates a_averageRates a_sums a_historicAmounts a_holdings a_report v_companies v_accounts v_reserve H.size p0 hw) ⟨(callB_of 1 hts (kx_good iw_136) rfl rfl rfl (hts _ (kx_w iw_1)) (hts _ (kx_w iw_133)) (by decide +kernel) ⟨Nat.le_of_ble_eq_true rfl, Nat.le_of_ble_eq_true rfl⟩), (hts _ (kx_w iw_135)), (hts _ (kx_w sl_D_isCompany))⟩ (kx_preV hN hK hP hD [0] (by decide) rfl 0 rfl rfl) rfl rfl hl.1 rfl (lv_room (Nat.le_of_ble_eq_true rfl)) d_D_isBalanced_2 ⟨Nat.le_of_ble_eq_true rfl, Nat.le_of_ble_eq_true rfl⟩) hP hD hS hA [0] [1] rfl rfl (by decide) (by decide) [1, 0] (by decide) (fun _ => rfl) (fun r2 u2 H locs hw hP hD hS => ?_)
  have hP : va_P (dC, dI) classes (WS_D_isBalanced cI cL cZ h0 a_currencyOf a_sortOf a_closingRates a_averageRates a_sums a_historicAmounts a_holdings a_report v_companies v_accounts v_reserve v_sums) H := hP
  have hD : va_D A (WS_D_isBalanced cI cL cZ h0 a_currencyOf a_sortOf a_closingRates a_averageRates a_sums a_historicAmounts a_holdings a_report v_companies v_accounts v_reserve v_sums) := hD
  refine lv_if_ne (tgt := 10) hx hb d_D_isBalanced_5 rfl (fun hc => ?_) (fun hc => ?_)
  ·
    have hw := hw.1 hc
    refine lv_aload_n hx hb d_D_isBalanced_10 rfl (lv_at hl 0 rfl) ?_
    refine lv_iload_n hx hb d_D_isBalanced_11 rfl (lv_at hl 1 rfl) ?_
    refine kx_calll (ws' := fun u12 => (WS_D_isBalanced cI cL cZ h0 a_currencyOf a_sortOf a_closingRates a_averageRates a_sums a_historicAmounts a_holdings a_report v_companies v_accounts v_reserve v_sums)) (va_runV (As := [.int p0]) (rest := []) ⟨hx, hb, hml, hown, hts⟩ (c_D_bookTotal l dC dI cI cL cZ h0 a_currencyOf a_sortOf a_closingRates a_averageRates a_sums a_historicAmounts a_holdings a_report v_companies v_accounts v_reserve v_sums H.size p0 hw) ⟨(callB_of 1 hts (kx_good iw_226) rfl rfl rfl (hts _ (kx_w iw_1)) (hts _ (kx_w iw_223)) (by decide +kernel) ⟨Nat.le_of_ble_eq_true rfl, Nat.le_of_ble_eq_true rfl⟩), (hts _ (kx_w iw_225)), (hts _ (kx_w sl_D_bookTotal))⟩ (kx_preV hN hK hP hD [0, 1] (by decide) rfl 0 rfl rfl) rfl rfl hl.1 rfl (lv_room (Nat.le_of_ble_eq_true rfl)) d_D_isBalanced_12 ⟨Nat.le_of_ble_eq_true rfl, Nat.le_of_ble_eq_true rfl⟩) hP hD hS hA [0, 1] [] rfl rfl (by decide) (by decide) [0, 1] (by decide) (fun _ => rfl) (fun r12 u12 H locs hw hP hD hS => ?_)
    have hP : va_P (dC, dI) classes (WS_D_isBalanced cI cL cZ h0 a_currencyOf a_sortOf a_closingRates a_averageRates a_sums a_historicAmounts a_holdings a_report v_companies v_accounts v_reserve v_sums) H := hP
    have hD : va_D A (WS_D_isBalanced cI cL cZ h0 a_currencyOf a_sortOf a_closingRates a_averageRates a_sums a_historicAmounts a_holdings a_report v_companies v_accounts v_reserve v_sums) := hD
    refine lv_lconst (v := 0) hx hb d_D_isBalanced_15 (by decide) ?_
    refine W.lcmp hx hb d_D_isBalanced_16 ?_
    refine lv_if_ne (tgt := 24) hx hb d_D_isBalanced_17 rfl (fun hc => ?_) (fun hc => ?_)
    ·
      have hc := (lc_ne _ _).mp hc
      have hw := hw.1 hc
      refine lv_iconst (v := 0) hx hb d_D_isBalanced_24 (by decide) ?_
      exact W.iret (v := 0) hx hb hr (fun t ht hW => ⟨⟨0, (), rfl, hw, ⟨by rw [ht]; exact hP, hD⟩⟩, hS.F ht⟩) hS.2.2 d_D_isBalanced_25
    ·
      have hc := (lc_eq _ _).mp hc
      have hw := hw.2 hc
      refine lv_iconst (v := 1) hx hb d_D_isBalanced_20 (by decide) ?_
      refine lv_goto (tgt := 25) hx hb d_D_isBalanced_21 rfl ?_
      exact W.iret (v := 1) hx hb hr (fun t ht hW => ⟨⟨1, (), rfl, hw, ⟨by rw [ht]; exact hP, hD⟩⟩, hS.F ht⟩) hS.2.2 d_D_isBalanced_25
  ·
    have hw := hw.2 hc
    refine lv_iconst (v := (-1)) hx hb d_D_isBalanced_8 (by decide) ?_
    exact W.iret (v := (-1)) hx hb hr (fun t ht hW => ⟨⟨(-1), (), rfl, hw, ⟨by rw [ht]; exact hP, hD⟩⟩, hS.F ht⟩) hS.2.2 d_D_isBalanced_9
/-! ConsolidationDesk.controlled(I)I -/
abbrev y_D_controlled : MethodName := ⟨"ConsolidationDesk", "controlled", "(I)I"⟩
theorem d_D_controlled_0 : decode prog_1_method_10_code 0 = .ok (.aload_n 0, 1) := by decide +kernel
theorem d_D_controlled_1 : decode prog_1_method_10_code 1 = .ok (.iload_n 1, 1) := by decide +kernel
theorem d_D_controlled_2 : decode prog_1_method_10_code 2 = .ok (.invokevirtual 58, 3) := by decide +kernel
theorem d_D_controlled_5 : decode prog_1_method_10_code 5 = .ok (.ifCond .ne 5, 3) := by decide +kernel
theorem d_D_controlled_8 : decode prog_1_method_10_code 8 = .ok (.iconst (-1), 1) := by decide +kernel
theorem d_D_controlled_9 : decode prog_1_method_10_code 9 = .ok (.ireturn, 1) := by decide +kernel
theorem d_D_controlled_10 : decode prog_1_method_10_code 10 = .ok (.aload_n 0, 1) := by decide +kernel
theorem d_D_controlled_11 : decode prog_1_method_10_code 11 = .ok (.getfield 43, 3) := by decide +kernel
theorem d_D_controlled_14 : decode prog_1_method_10_code 14 = .ok (.iload_n 1, 1) := by decide +kernel
theorem d_D_controlled_15 : decode prog_1_method_10_code 15 = .ok (.invokevirtual 93, 3) := by decide +kernel
theorem d_D_controlled_18 : decode prog_1_method_10_code 18 = .ok (.ifCond .eq 7, 3) := by decide +kernel
theorem d_D_controlled_21 : decode prog_1_method_10_code 21 = .ok (.iconst 1, 1) := by decide +kernel
theorem d_D_controlled_22 : decode prog_1_method_10_code 22 = .ok (.goto 4, 3) := by decide +kernel
theorem d_D_controlled_25 : decode prog_1_method_10_code 25 = .ok (.iconst 0, 1) := by decide +kernel
theorem d_D_controlled_26 : decode prog_1_method_10_code 26 = .ok (.ireturn, 1) := by decide +kernel
abbrev WS_D_controlled (cI cL cZ : ClassId)  (h0 a_currencyOf a_sortOf a_closingRates a_averageRates a_sums a_historicAmounts a_holdings a_report a_holdings_parts a_holdings_chainLengths a_holdings_underControl a_holdings_shares a_holdings_chainShares a_holdings_longerChainShares : Nat) (v_companies : Int32) (v_accounts : Int32) (v_reserve : Int32) (v_holdings_underControl : (Nat → Int32)) : va_W := [(h0, .inr (2, [.int v_companies, .ref a_currencyOf, .int v_accounts, .ref a_sortOf, .int v_reserve, .ref a_closingRates, .ref a_averageRates, .ref a_sums, .ref a_historicAmounts, .ref a_holdings, .ref a_report])), (a_holdings, .inr (0, [.ref a_holdings_parts, .ref a_holdings_chainLengths, .ref a_holdings_underControl, .ref a_holdings_shares, .ref a_holdings_chainShares, .ref a_holdings_longerChainShares])), (a_holdings_underControl, .inl (cZ, 12, .inl v_holdings_underControl))]
def wp_D_controlled  (p0 : Int32) (v_companies : Int32) (v_holdings_underControl : (Nat → Int32)) (post : Int32 → Unit → Prop) : Prop := (wp_D_isCompany p0 v_companies (fun (r2 : Int32) (u2 : Unit) => ((¬ r2 = 0 → (wp_H_isControlled p0 v_holdings_underControl (fun (r15 : Int32) (u15 : Unit) => ((r15 = 0 → post 0 ()) ∧ (¬ r15 = 0 → post 1 ()))))) ∧ (r2 = 0 → post (-1) ()))))
abbrev ws_D_controlled : List Cond := .code y_D_controlled prog_1_method_10_code 2 (some .int) :: kxW
abbrev rm_D_controlled : Room := { frames := 1, cells := 0, slots := 0, locals := 21 }
abbrev QC_D_controlled (dC : Nat → ClassId) (dI : Nat → Nat → Nat) (cI cL cZ : ClassId) (A : Nat → Prop)  (h0 a_currencyOf a_sortOf a_closingRates a_averageRates a_sums a_historicAmounts a_holdings a_report a_holdings_parts a_holdings_chainLengths a_holdings_underControl a_holdings_shares a_holdings_chainShares a_holdings_longerChainShares : Nat) (v_companies : Int32) (v_accounts : Int32) (v_reserve : Int32) (v_holdings_underControl : (Nat → Int32)) (post : Int32 → Unit → Prop) : Array Value → State → Outcome → State → Prop := va_Qi post (fun (u : Unit) t => kx_B (dC, dI) classes A (WS_D_controlled cI cL cZ h0 a_currencyOf a_sortOf a_closingRates a_averageRates a_sums a_historicAmounts a_holdings a_report a_holdings_parts a_holdings_chainLengths a_holdings_underControl a_holdings_shares a_holdings_chainShares a_holdings_longerChainShares v_companies v_accounts v_reserve v_holdings_underControl) t) A
set_option maxHeartbeats 4000000 in
set_option maxRecDepth 100000 in
theorem c_D_controlled (l : Launch) (dC : Nat → ClassId) (dI : Nat → Nat → Nat) (cI cL cZ : ClassId)  (h0 a_currencyOf a_sortOf a_closingRates a_averageRates a_sums a_historicAmounts a_holdings a_report a_holdings_parts a_holdings_chainLengths a_holdings_underControl a_holdings_shares a_holdings_chainShares a_holdings_longerChainShares : Nat) (v_companies : Int32) (v_accounts : Int32) (v_reserve : Int32) (v_holdings_underControl : (Nat → Int32)) (sz : Nat) (p0 : Int32) {post : Int32 → Unit → Prop} (hw : wp_D_controlled p0 v_companies v_holdings_underControl post) : Met l y_D_controlled ws_D_controlled rm_D_controlled (kx_Pc (dC, dI) classes (kx_T cI cL cZ) (WS_D_controlled cI cL cZ h0 a_currencyOf a_sortOf a_closingRates a_averageRates a_sums a_historicAmounts a_holdings a_report a_holdings_parts a_holdings_chainLengths a_holdings_underControl a_holdings_shares a_holdings_chainShares a_holdings_longerChainShares v_companies v_accounts v_reserve v_holdings_underControl) sz [.ref h0, .int p0]) (QC_D_controlled dC dI cI cL cZ (va_A (WS_D_controlled cI cL cZ h0 a_currencyOf a_sortOf a_closingRates a_averageRates a_sums a_historicAmounts a_holdings a_report a_holdings_parts a_holdings_chainLengths a_holdings_underControl a_holdings_shares a_holdings_chainShares a_holdings_longerChainShares v_companies v_accounts v_reserve v_holdings_underControl) sz) h0 a_currencyOf a_sortOf a_closingRates a_averageRates a_sums a_historicAmounts a_holdings a_report a_holdings_parts a_holdings_chainLengths a_holdings_underControl a_holdings_shares a_holdings_chainShares a_holdings_longerChainShares v_companies v_accounts v_reserve v_holdings_underControl post) 0 0 (va_A (WS_D_controlled cI cL cZ h0 a_currencyOf a_sortOf a_closingRates a_averageRates a_sums a_historicAmounts a_holdings a_report a_holdings_parts a_holdings_chainLengths a_holdings_underControl a_holdings_shares a_holdings_chainShares a_holdings_longerChainShares v_companies v_accounts v_reserve v_holdings_underControl) sz) := by
  refine Met.ofW (cc := prog_1_method_10_code) (maxL := 2) (ret := (some .int)) (by decide) rfl ?_
  intro p e s m args below meth c s₁ B hml hv
  obtain ⟨rfl, hsz, hP, hK, hD0, hN⟩ := hv
  have hx := B.exec
  have hb := B.bytes
  have hr := B.returns
  have hts := atoms_spec (ws := ws_D_controlled) B.pre
  have hown : s.vm.findClass R_D = some m.cls := findClass_of_methodNamed B.named
  have hlocks := B.notSynchronized
  subst hsz
  have hD := hD0.self (sz := s.heap.size)
  generalize hAe : va_A (WS_D_controlled cI cL cZ h0 a_currencyOf a_sortOf a_closingRates a_averageRates a_sums a_historicAmounts a_holdings a_report a_holdings_parts a_holdings_chainLengths a_holdings_underControl a_holdings_shares a_holdings_chainShares a_holdings_longerChainShares v_companies v_accounts v_reserve v_holdings_underControl) s.heap.size = A at hD ⊢
  have hA : ∀ q : Nat, s.heap.size ≤ q → A q := fun q h => by rw [← hAe]; exact Or.inr h
  have hS : va_S A s.heap s.heap [] := va_S.rf
  have hP : va_P (dC, dI) classes (WS_D_controlled cI cL cZ h0 a_currencyOf a_sortOf a_closingRates a_averageRates a_sums a_historicAmounts a_holdings a_report a_holdings_parts a_holdings_chainLengths a_holdings_underControl a_holdings_shares a_holdings_chainShares a_holdings_longerChainShares v_companies v_accounts v_reserve v_holdings_underControl) s.heap := hP
  have hl := lv_entry ([.ref h0, .int p0]) (n := 2) (Nat.le_of_ble_eq_true rfl)
  rw [lg_entry_eq]
  generalize (lg_sl ([.ref h0, .int p0]) ++ List.replicate (2 - (lg_sl ([.ref h0, .int p0])).length) Slot.unset).toArray = ls at hl ⊢
  have hl : lv_has ls 2 [(0, .ref h0), (1, .int p0)] := hl
  unfold wp_D_controlled at hw
  refine (show ∀ (H : Heap) (locs : List Loc), va_P (dC, dI) classes (WS_D_controlled cI cL cZ h0 a_currencyOf a_sortOf a_closingRates a_averageRates a_sums a_historicAmounts a_holdings a_report a_holdings_parts a_holdings_chainLengths a_holdings_underControl a_holdings_shares a_holdings_chainShares a_holdings_longerChainShares v_companies v_accounts v_reserve v_holdings_underControl) H → va_S A s.heap H locs → W p l e (headSpec ws_D_controlled rm_D_controlled).room s m ([.ref h0, .int p0] : List Value).toArray below meth c H locs 0 0 (MQ below (QC_D_controlled dC dI cI cL cZ A h0 a_currencyOf a_sortOf a_closingRates a_averageRates a_sums a_historicAmounts a_holdings a_report a_holdings_parts a_holdings_chainLengths a_holdings_underControl a_holdings_shares a_holdings_chainShares a_holdings_longerChainShares v_companies v_accounts v_reserve v_holdings_underControl post) ([.ref h0, .int p0] : List Value).toArray s 0 0 A) (F0 m 0 ls []) from ?_) _ _ hP hS
  intro H locs hP hS
  refine lv_aload_n hx hb d_D_controlled_0 rfl (lv_at hl 0 rfl) ?_
  refine lv_iload_n hx hb d_D_controlled_1 rfl (lv_at hl 1 rfl) ?_
  refine kx_calli (ws' := fun u2 => (WS_D_controlled cI cL cZ h0 a_currencyOf a_sortOf a_closingRates a_averageRates a_sums a_historicAmounts a_holdings a_report a_holdings_parts a_holdings_chainLengths a_holdings_underControl a_holdings_shares a_holdings_chainShares a_holdings_longerChainShares v_companies v_accounts v_reserve v_holdings_underControl)) (va_runV (As := [.int p0]) (rest := []) ⟨hx, hb, hml, hown, hts⟩ (c_D_isCompany l dC dI cI cL cZ h0 a_currencyOf a_sortOf a_closingRates a_averageRates a_sums a_historicAmounts a_holdings a_report v_companies v_accounts v_reserve H.size p0 hw) ⟨(callB_of 1 hts (kx_good iw_136) rfl rfl rfl (hts _ (kx_w iw_1)) (hts _ (kx_w iw_133)) (by decide +kernel) ⟨Nat.le_of_ble_eq_true rfl, Nat.le_of_ble_eq_true rfl⟩), (hts _ (kx_w iw_135)), (hts _ (kx_w sl_D_isCompany))⟩ (kx_preV hN hK hP hD [0] (by decide) rfl 0 rfl rfl) rfl rfl hl.1 rfl (lv_room (Nat.le_of_ble_eq_true rfl)) d_D_controlled_2 ⟨Nat.le_of_ble_eq_true rfl, Nat.le_of_ble_eq_true rfl⟩) hP hD hS hA [0] [1, 2] rfl rfl (by decide) (by decide) [2, 0, 1] (by decide) (fun _ => rfl) (fun r2 u2 H locs hw hP hD hS => ?_)
  have hP : va_P (dC, dI) classes (WS_D_controlled cI cL cZ h0 a_currencyOf a_sortOf a_closingRates a_averageRates a_sums a_historicAmounts a_holdings a_report a_holdings_parts a_holdings_chainLengths a_holdings_underControl a_holdings_shares a_holdings_chainShares a_holdings_longerChainShares v_companies v_accounts v_reserve v_holdings_underControl) H := hP
  have hD : va_D A (WS_D_controlled cI cL cZ h0 a_currencyOf a_sortOf a_closingRates a_averageRates a_sums a_historicAmounts a_holdings a_report a_holdings_parts a_holdings_chainLengths a_holdings_underControl a_holdings_shares a_holdings_chainShares a_holdings_longerChainShares v_companies v_accounts v_reserve v_holdings_underControl) := hD
  refine lv_if_ne (tgt := 10) hx hb d_D_controlled_5 rfl (fun hc => ?_) (fun hc => ?_)
  ·
    have hw := hw.1 hc
    refine lv_aload_n hx hb d_D_controlled_10 rfl (lv_at hl 0 rfl) ?_
    refine va_get (D := (dC, dI)) (ci := 2) (v := .ref a_holdings) (C := R_D) (T := F_D) (N := 11) hx hb hts (kx_in in_D) hown hK hP 0 rfl rfl 9 (by decide) (hts _ (kx_w iw_93)) (fun _ h9 => h9) rfl d_D_controlled_11 ?_
    refine lv_iload_n hx hb d_D_controlled_14 rfl (lv_at hl 1 rfl) ?_
    refine kx_calli (ws' := fun u15 => (WS_D_controlled cI cL cZ h0 a_currencyOf a_sortOf a_closingRates a_averageRates a_sums a_historicAmounts a_holdings a_report a_holdings_parts a_holdings_chainLengths a_holdings_underControl a_holdings_shares a_holdings_chainShares a_holdings_longerChainShares v_companies v_accounts v_reserve v_holdings_underControl)) (va_runV (As := [.int p0]) (rest := []) ⟨hx, hb, hml, hown, hts⟩ (c_H_isControlled l dC dI cI cL cZ a_holdings a_holdings_parts a_holdings_chainLengths a_holdings_underControl a_holdings_shares a_holdings_chainShares a_holdings_longerChainShares v_holdings_underControl H.size p0 hw) ⟨(callB_of 1 hts (kx_good iw_234) rfl rfl rfl (hts _ (kx_w iw_2)) (hts _ (kx_w iw_231)) (by decide +kernel) ⟨Nat.le_of_ble_eq_true rfl, Nat.le_of_ble_eq_true rfl⟩), (hts _ (kx_w iw_232)), (hts _ (kx_w iw_233))⟩ (kx_preV hN hK hP hD [1, 2] (by decide) rfl 1 rfl rfl) rfl rfl hl.1 rfl (lv_room (Nat.le_of_ble_eq_true rfl)) d_D_controlled_15 ⟨Nat.le_of_ble_eq_true rfl, Nat.le_of_ble_eq_true rfl⟩) hP hD hS hA [1, 2] [0] rfl rfl (by decide) (by decide) [0, 1, 2] (by decide) (fun _ => rfl) (fun r15 u15 H locs hw hP hD hS => ?_)
    have hP : va_P (dC, dI) classes (WS_D_controlled cI cL cZ h0 a_currencyOf a_sortOf a_closingRates a_averageRates a_sums a_historicAmounts a_holdings a_report a_holdings_parts a_holdings_chainLengths a_holdings_underControl a_holdings_shares a_holdings_chainShares a_holdings_longerChainShares v_companies v_accounts v_reserve v_holdings_underControl) H := hP
    have hD : va_D A (WS_D_controlled cI cL cZ h0 a_currencyOf a_sortOf a_closingRates a_averageRates a_sums a_historicAmounts a_holdings a_report a_holdings_parts a_holdings_chainLengths a_holdings_underControl a_holdings_shares a_holdings_chainShares a_holdings_longerChainShares v_companies v_accounts v_reserve v_holdings_underControl) := hD
    refine lv_if_eq (tgt := 25) hx hb d_D_controlled_18 rfl (fun hc => ?_) (fun hc => ?_)
    ·
      have hw := hw.1 hc
      refine lv_iconst (v := 0) hx hb d_D_controlled_25 (by decide) ?_
      exact W.iret (v := 0) hx hb hr (fun t ht hW => ⟨⟨0, (), rfl, hw, ⟨by rw [ht]; exact hP, hD⟩⟩, hS.F ht⟩) hS.2.2 d_D_controlled_26
    ·
      have hw := hw.2 hc
      refine lv_iconst (v := 1) hx hb d_D_controlled_21 (by decide) ?_
      refine lv_goto (tgt := 26) hx hb d_D_controlled_22 rfl ?_
      exact W.iret (v := 1) hx hb hr (fun t ht hW => ⟨⟨1, (), rfl, hw, ⟨by rw [ht]; exact hP, hD⟩⟩, hS.F ht⟩) hS.2.2 d_D_controlled_26
  ·
    have hw := hw.2 hc
    refine lv_iconst (v := (-1)) hx hb d_D_controlled_8 (by decide) ?_
    exact W.iret (v := (-1)) hx hb hr (fun t ht hW => ⟨⟨(-1), (), rfl, hw, ⟨by rw [ht]; exact hP, hD⟩⟩, hS.F ht⟩) hS.2.2 d_D_controlled_9
/-! ConsolidationDesk.effective(I)J -/
abbrev y_D_effective : MethodName := ⟨"ConsolidationDesk", "effective", "(I)J"⟩
theorem d_D_effective_0 : decode prog_1_method_11_code 0 = .ok (.aload_n 0, 1) := by decide +kernel
theorem d_D_effective_1 : decode prog_1_method_11_code 1 = .ok (.iload_n 1, 1) := by decide +kernel
theorem d_D_effective_2 : decode prog_1_method_11_code 2 = .ok (.invokevirtual 58, 3) := by decide +kernel
theorem d_D_effective_5 : decode prog_1_method_11_code 5 = .ok (.ifCond .ne 7, 3) := by decide +kernel
theorem d_D_effective_8 : decode prog_1_method_11_code 8 = .ok (.ldc2_w 96, 3) := by decide +kernel
theorem d_D_effective_11 : decode prog_1_method_11_code 11 = .ok (.lreturn, 1) := by decide +kernel
theorem d_D_effective_12 : decode prog_1_method_11_code 12 = .ok (.aload_n 0, 1) := by decide +kernel
theorem d_D_effective_13 : decode prog_1_method_11_code 13 = .ok (.getfield 43, 3) := by decide +kernel
theorem d_D_effective_16 : decode prog_1_method_11_code 16 = .ok (.iload_n 1, 1) := by decide +kernel
theorem d_D_effective_17 : decode prog_1_method_11_code 17 = .ok (.invokevirtual 98, 3) := by decide +kernel
theorem d_D_effective_20 : decode prog_1_method_11_code 20 = .ok (.lreturn, 1) := by decide +kernel
abbrev WS_D_effective (cI cL cZ : ClassId)  (h0 a_currencyOf a_sortOf a_closingRates a_averageRates a_sums a_historicAmounts a_holdings a_report a_holdings_parts a_holdings_chainLengths a_holdings_underControl a_holdings_shares a_holdings_chainShares a_holdings_longerChainShares : Nat) (v_companies : Int32) (v_accounts : Int32) (v_reserve : Int32) (v_holdings_shares : (Nat → Int64)) : va_W := [(h0, .inr (2, [.int v_companies, .ref a_currencyOf, .int v_accounts, .ref a_sortOf, .int v_reserve, .ref a_closingRates, .ref a_averageRates, .ref a_sums, .ref a_historicAmounts, .ref a_holdings, .ref a_report])), (a_holdings, .inr (0, [.ref a_holdings_parts, .ref a_holdings_chainLengths, .ref a_holdings_underControl, .ref a_holdings_shares, .ref a_holdings_chainShares, .ref a_holdings_longerChainShares])), (a_holdings_shares, .inl (cL, 12, .inr (.inl v_holdings_shares)))]
def wp_D_effective  (p0 : Int32) (v_companies : Int32) (v_holdings_shares : (Nat → Int64)) (post : Int64 → Unit → Prop) : Prop := (wp_D_isCompany p0 v_companies (fun (r2 : Int32) (u2 : Unit) => ((¬ r2 = 0 → (wp_H_headShare p0 v_holdings_shares (fun (r17 : Int64) (u17 : Unit) => post r17 ()))) ∧ (r2 = 0 → post (-1) ()))))
abbrev ws_D_effective : List Cond := .code y_D_effective prog_1_method_11_code 2 (some .long) :: kxW
abbrev rm_D_effective : Room := { frames := 1, cells := 0, slots := 0, locals := 21 }
abbrev QC_D_effective (dC : Nat → ClassId) (dI : Nat → Nat → Nat) (cI cL cZ : ClassId) (A : Nat → Prop)  (h0 a_currencyOf a_sortOf a_closingRates a_averageRates a_sums a_historicAmounts a_holdings a_report a_holdings_parts a_holdings_chainLengths a_holdings_underControl a_holdings_shares a_holdings_chainShares a_holdings_longerChainShares : Nat) (v_companies : Int32) (v_accounts : Int32) (v_reserve : Int32) (v_holdings_shares : (Nat → Int64)) (post : Int64 → Unit → Prop) : Array Value → State → Outcome → State → Prop := va_Ql post (fun (u : Unit) t => kx_B (dC, dI) classes A (WS_D_effective cI cL cZ h0 a_currencyOf a_sortOf a_closingRates a_averageRates a_sums a_historicAmounts a_holdings a_report a_holdings_parts a_holdings_chainLengths a_holdings_underControl a_holdings_shares a_holdings_chainShares a_holdings_longerChainShares v_companies v_accounts v_reserve v_holdings_shares) t) A
set_option maxHeartbeats 4000000 in
set_option maxRecDepth 100000 in
theorem c_D_effective (l : Launch) (dC : Nat → ClassId) (dI : Nat → Nat → Nat) (cI cL cZ : ClassId)  (h0 a_currencyOf a_sortOf a_closingRates a_averageRates a_sums a_historicAmounts a_holdings a_report a_holdings_parts a_holdings_chainLengths a_holdings_underControl a_holdings_shares a_holdings_chainShares a_holdings_longerChainShares : Nat) (v_companies : Int32) (v_accounts : Int32) (v_reserve : Int32) (v_holdings_shares : (Nat → Int64)) (sz : Nat) (p0 : Int32) {post : Int64 → Unit → Prop} (hw : wp_D_effective p0 v_companies v_holdings_shares post) : Met l y_D_effective ws_D_effective rm_D_effective (kx_Pc (dC, dI) classes (kx_T cI cL cZ) (WS_D_effective cI cL cZ h0 a_currencyOf a_sortOf a_closingRates a_averageRates a_sums a_historicAmounts a_holdings a_report a_holdings_parts a_holdings_chainLengths a_holdings_underControl a_holdings_shares a_holdings_chainShares a_holdings_longerChainShares v_companies v_accounts v_reserve v_holdings_shares) sz [.ref h0, .int p0]) (QC_D_effective dC dI cI cL cZ (va_A (WS_D_effective cI cL cZ h0 a_currencyOf a_sortOf a_closingRates a_averageRates a_sums a_historicAmounts a_holdings a_report a_holdings_parts a_holdings_chainLengths a_holdings_underControl a_holdings_shares a_holdings_chainShares a_holdings_longerChainShares v_companies v_accounts v_reserve v_holdings_shares) sz) h0 a_currencyOf a_sortOf a_closingRates a_averageRates a_sums a_historicAmounts a_holdings a_report a_holdings_parts a_holdings_chainLengths a_holdings_underControl a_holdings_shares a_holdings_chainShares a_holdings_longerChainShares v_companies v_accounts v_reserve v_holdings_shares post) 0 0 (va_A (WS_D_effective cI cL cZ h0 a_currencyOf a_sortOf a_closingRates a_averageRates a_sums a_historicAmounts a_holdings a_report a_holdings_parts a_holdings_chainLengths a_holdings_underControl a_holdings_shares a_holdings_chainShares a_holdings_longerChainShares v_companies v_accounts v_reserve v_holdings_shares) sz) := by
  refine Met.ofW (cc := prog_1_method_11_code) (maxL := 2) (ret := (some .long)) (by decide) rfl ?_
  intro p e s m args below meth c s₁ B hml hv
  obtain ⟨rfl, hsz, hP, hK, hD0, hN⟩ := hv
  have hx := B.exec
  have hb := B.bytes
  have hr := B.returns
  have hts := atoms_spec (ws := ws_D_effective) B.pre
  have hown : s.vm.findClass R_D = some m.cls := findClass_of_methodNamed B.named
  have hlocks := B.notSynchronized
  subst hsz
  have hD := hD0.self (sz := s.heap.size)
  generalize hAe : va_A (WS_D_effective cI cL cZ h0 a_currencyOf a_sortOf a_closingRates a_averageRates a_sums a_historicAmounts a_holdings a_report a_holdings_parts a_holdings_chainLengths a_holdings_underControl a_holdings_shares a_holdings_chainShares a_holdings_longerChainShares v_companies v_accounts v_reserve v_holdings_shares) s.heap.size = A at hD ⊢
  have hA : ∀ q : Nat, s.heap.size ≤ q → A q := fun q h => by rw [← hAe]; exact Or.inr h
  have hS : va_S A s.heap s.heap [] := va_S.rf
  have hP : va_P (dC, dI) classes (WS_D_effective cI cL cZ h0 a_currencyOf a_sortOf a_closingRates a_averageRates a_sums a_historicAmounts a_holdings a_report a_holdings_parts a_holdings_chainLengths a_holdings_underControl a_holdings_shares a_holdings_chainShares a_holdings_longerChainShares v_companies v_accounts v_reserve v_holdings_shares) s.heap := hP
  have hl := lv_entry ([.ref h0, .int p0]) (n := 2) (Nat.le_of_ble_eq_true rfl)
  rw [lg_entry_eq]
  generalize (lg_sl ([.ref h0, .int p0]) ++ List.replicate (2 - (lg_sl ([.ref h0, .int p0])).length) Slot.unset).toArray = ls at hl ⊢
  have hl : lv_has ls 2 [(0, .ref h0), (1, .int p0)] := hl
  unfold wp_D_effective at hw
  refine (show ∀ (H : Heap) (locs : List Loc), va_P (dC, dI) classes (WS_D_effective cI cL cZ h0 a_currencyOf a_sortOf a_closingRates a_averageRates a_sums a_historicAmounts a_holdings a_report a_holdings_parts a_holdings_chainLengths a_holdings_underControl a_holdings_shares a_holdings_chainShares a_holdings_longerChainShares v_companies v_accounts v_reserve v_holdings_shares) H → va_S A s.heap H locs → W p l e (headSpec ws_D_effective rm_D_effective).room s m ([.ref h0, .int p0] : List Value).toArray below meth c H locs 0 0 (MQ below (QC_D_effective dC dI cI cL cZ A h0 a_currencyOf a_sortOf a_closingRates a_averageRates a_sums a_historicAmounts a_holdings a_report a_holdings_parts a_holdings_chainLengths a_holdings_underControl a_holdings_shares a_holdings_chainShares a_holdings_longerChainShares v_companies v_accounts v_reserve v_holdings_shares post) ([.ref h0, .int p0] : List Value).toArray s 0 0 A) (F0 m 0 ls []) from ?_) _ _ hP hS
  intro H locs hP hS
  refine lv_aload_n hx hb d_D_effective_0 rfl (lv_at hl 0 rfl) ?_
  refine lv_iload_n hx hb d_D_effective_1 rfl (lv_at hl 1 rfl) ?_
  refine kx_calli (ws' := fun u2 => (WS_D_effective cI cL cZ h0 a_currencyOf a_sortOf a_closingRates a_averageRates a_sums a_historicAmounts a_holdings a_report a_holdings_parts a_holdings_chainLengths a_holdings_underControl a_holdings_shares a_holdings_chainShares a_holdings_longerChainShares v_companies v_accounts v_reserve v_holdings_shares)) (va_runV (As := [.int p0]) (rest := []) ⟨hx, hb, hml, hown, hts⟩ (c_D_isCompany l dC dI cI cL cZ h0 a_currencyOf a_sortOf a_closingRates a_averageRates a_sums a_historicAmounts a_holdings a_report v_companies v_accounts v_reserve H.size p0 hw) ⟨(callB_of 1 hts (kx_good iw_136) rfl rfl rfl (hts _ (kx_w iw_1)) (hts _ (kx_w iw_133)) (by decide +kernel) ⟨Nat.le_of_ble_eq_true rfl, Nat.le_of_ble_eq_true rfl⟩), (hts _ (kx_w iw_135)), (hts _ (kx_w sl_D_isCompany))⟩ (kx_preV hN hK hP hD [0] (by decide) rfl 0 rfl rfl) rfl rfl hl.1 rfl (lv_room (Nat.le_of_ble_eq_true rfl)) d_D_effective_2 ⟨Nat.le_of_ble_eq_true rfl, Nat.le_of_ble_eq_true rfl⟩) hP hD hS hA [0] [1, 2] rfl rfl (by decide) (by decide) [2, 0, 1] (by decide) (fun _ => rfl) (fun r2 u2 H locs hw hP hD hS => ?_)
  have hP : va_P (dC, dI) classes (WS_D_effective cI cL cZ h0 a_currencyOf a_sortOf a_closingRates a_averageRates a_sums a_historicAmounts a_holdings a_report a_holdings_parts a_holdings_chainLengths a_holdings_underControl a_holdings_shares a_holdings_chainShares a_holdings_longerChainShares v_companies v_accounts v_reserve v_holdings_shares) H := hP
  have hD : va_D A (WS_D_effective cI cL cZ h0 a_currencyOf a_sortOf a_closingRates a_averageRates a_sums a_historicAmounts a_holdings a_report a_holdings_parts a_holdings_chainLengths a_holdings_underControl a_holdings_shares a_holdings_chainShares a_holdings_longerChainShares v_companies v_accounts v_reserve v_holdings_shares) := hD
  refine lv_if_ne (tgt := 12) hx hb d_D_effective_5 rfl (fun hc => ?_) (fun hc => ?_)
  ·
    have hw := hw.1 hc
    refine lv_aload_n hx hb d_D_effective_12 rfl (lv_at hl 0 rfl) ?_
    refine va_get (D := (dC, dI)) (ci := 2) (v := .ref a_holdings) (C := R_D) (T := F_D) (N := 11) hx hb hts (kx_in in_D) hown hK hP 0 rfl rfl 9 (by decide) (hts _ (kx_w iw_93)) (fun _ h9 => h9) rfl d_D_effective_13 ?_
    refine lv_iload_n hx hb d_D_effective_16 rfl (lv_at hl 1 rfl) ?_
    refine kx_calll (ws' := fun u17 => (WS_D_effective cI cL cZ h0 a_currencyOf a_sortOf a_closingRates a_averageRates a_sums a_historicAmounts a_holdings a_report a_holdings_parts a_holdings_chainLengths a_holdings_underControl a_holdings_shares a_holdings_chainShares a_holdings_longerChainShares v_companies v_accounts v_reserve v_holdings_shares)) (va_runV (As := [.int p0]) (rest := []) ⟨hx, hb, hml, hown, hts⟩ (c_H_headShare l dC dI cI cL cZ a_holdings a_holdings_parts a_holdings_chainLengths a_holdings_underControl a_holdings_shares a_holdings_chainShares a_holdings_longerChainShares v_holdings_shares H.size p0 hw) ⟨(callB_of 1 hts (kx_good iw_243) rfl rfl rfl (hts _ (kx_w iw_2)) (hts _ (kx_w iw_240)) (by decide +kernel) ⟨Nat.le_of_ble_eq_true rfl, Nat.le_of_ble_eq_true rfl⟩), (hts _ (kx_w iw_241)), (hts _ (kx_w iw_242))⟩ (kx_preV hN hK hP hD [1, 2] (by decide) rfl 1 rfl rfl) rfl rfl hl.1 rfl (lv_room (Nat.le_of_ble_eq_true rfl)) d_D_effective_17 ⟨Nat.le_of_ble_eq_true rfl, Nat.le_of_ble_eq_true rfl⟩) hP hD hS hA [1, 2] [0] rfl rfl (by decide) (by decide) [0, 1, 2] (by decide) (fun _ => rfl) (fun r17 u17 H locs hw hP hD hS => ?_)
    have hP : va_P (dC, dI) classes (WS_D_effective cI cL cZ h0 a_currencyOf a_sortOf a_closingRates a_averageRates a_sums a_historicAmounts a_holdings a_report a_holdings_parts a_holdings_chainLengths a_holdings_underControl a_holdings_shares a_holdings_chainShares a_holdings_longerChainShares v_companies v_accounts v_reserve v_holdings_shares) H := hP
    have hD : va_D A (WS_D_effective cI cL cZ h0 a_currencyOf a_sortOf a_closingRates a_averageRates a_sums a_historicAmounts a_holdings a_report a_holdings_parts a_holdings_chainLengths a_holdings_underControl a_holdings_shares a_holdings_chainShares a_holdings_longerChainShares v_companies v_accounts v_reserve v_holdings_shares) := hD
    exact W.lret (v := r17) hx hb hr (fun t ht hW => ⟨⟨r17, (), rfl, hw, ⟨by rw [ht]; exact hP, hD⟩⟩, hS.F ht⟩) hS.2.2 d_D_effective_20
  ·
    have hw := hw.2 hc
    refine lv_ldc2 (v := (-1)) hx hb hown (hts _ (kx_w iw_239)) d_D_effective_8 ?_
    exact W.lret (v := (-1)) hx hb hr (fun t ht hW => ⟨⟨(-1), (), rfl, hw, ⟨by rw [ht]; exact hP, hD⟩⟩, hS.F ht⟩) hS.2.2 d_D_effective_11
/-! ConsolidationDesk.openItems()I -/
abbrev y_D_openItems : MethodName := ⟨"ConsolidationDesk", "openItems", "()I"⟩
theorem d_D_openItems_0 : decode prog_1_method_16_code 0 = .ok (.aload_n 0, 1) := by decide +kernel
theorem d_D_openItems_1 : decode prog_1_method_16_code 1 = .ok (.getfield 50, 3) := by decide +kernel
theorem d_D_openItems_4 : decode prog_1_method_16_code 4 = .ok (.invokevirtual 139, 3) := by decide +kernel
theorem d_D_openItems_7 : decode prog_1_method_16_code 7 = .ok (.ireturn, 1) := by decide +kernel
abbrev WS_D_openItems (cI cL cZ : ClassId)  (h0 a_currencyOf a_sortOf a_closingRates a_averageRates a_sums a_historicAmounts a_holdings a_report a_report_amounts a_report_stepAmounts a_report_groupAmounts a_report_outsidersCredits a_report_openPlaces : Nat) (v_companies : Int32) (v_accounts : Int32) (v_reserve : Int32) (v_report_made : Int32) (v_report_companies : Int32) (v_report_accounts : Int32) (v_report_open : Int32) : va_W := [(h0, .inr (2, [.int v_companies, .ref a_currencyOf, .int v_accounts, .ref a_sortOf, .int v_reserve, .ref a_closingRates, .ref a_averageRates, .ref a_sums, .ref a_historicAmounts, .ref a_holdings, .ref a_report])), (a_report, .inr (1, [.int v_report_made, .int v_report_companies, .int v_report_accounts, .ref a_report_amounts, .ref a_report_stepAmounts, .ref a_report_groupAmounts, .ref a_report_outsidersCredits, .ref a_report_openPlaces, .int v_report_open]))]
def wp_D_openItems   (v_report_open : Int32) (post : Int32 → Unit → Prop) : Prop := (wp_R_openCount v_report_open (fun (r4 : Int32) (u4 : Unit) => post r4 ()))
abbrev ws_D_openItems : List Cond := .code y_D_openItems prog_1_method_16_code 1 (some .int) :: kxW
abbrev rm_D_openItems : Room := { frames := 1, cells := 0, slots := 0, locals := 20 }
abbrev QC_D_openItems (dC : Nat → ClassId) (dI : Nat → Nat → Nat) (cI cL cZ : ClassId) (A : Nat → Prop)  (h0 a_currencyOf a_sortOf a_closingRates a_averageRates a_sums a_historicAmounts a_holdings a_report a_report_amounts a_report_stepAmounts a_report_groupAmounts a_report_outsidersCredits a_report_openPlaces : Nat) (v_companies : Int32) (v_accounts : Int32) (v_reserve : Int32) (v_report_made : Int32) (v_report_companies : Int32) (v_report_accounts : Int32) (v_report_open : Int32) (post : Int32 → Unit → Prop) : Array Value → State → Outcome → State → Prop := va_Qi post (fun (u : Unit) t => kx_B (dC, dI) classes A (WS_D_openItems cI cL cZ h0 a_currencyOf a_sortOf a_closingRates a_averageRates a_sums a_historicAmounts a_holdings a_report a_report_amounts a_report_stepAmounts a_report_groupAmounts a_report_outsidersCredits a_report_openPlaces v_companies v_accounts v_reserve v_report_made v_report_companies v_report_accounts v_report_open) t) A
set_option maxHeartbeats 4000000 in
set_option maxRecDepth 100000 in
theorem c_D_openItems (l : Launch) (dC : Nat → ClassId) (dI : Nat → Nat → Nat) (cI cL cZ : ClassId)  (h0 a_currencyOf a_sortOf a_closingRates a_averageRates a_sums a_historicAmounts a_holdings a_report a_report_amounts a_report_stepAmounts a_report_groupAmounts a_report_outsidersCredits a_report_openPlaces : Nat) (v_companies : Int32) (v_accounts : Int32) (v_reserve : Int32) (v_report_made : Int32) (v_report_companies : Int32) (v_report_accounts : Int32) (v_report_open : Int32) (sz : Nat)  {post : Int32 → Unit → Prop} (hw : wp_D_openItems v_report_open post) : Met l y_D_openItems ws_D_openItems rm_D_openItems (kx_Pc (dC, dI) classes (kx_T cI cL cZ) (WS_D_openItems cI cL cZ h0 a_currencyOf a_sortOf a_closingRates a_averageRates a_sums a_historicAmounts a_holdings a_report a_report_amounts a_report_stepAmounts a_report_groupAmounts a_report_outsidersCredits a_report_openPlaces v_companies v_accounts v_reserve v_report_made v_report_companies v_report_accounts v_report_open) sz [.ref h0]) (QC_D_openItems dC dI cI cL cZ (va_A (WS_D_openItems cI cL cZ h0 a_currencyOf a_sortOf a_closingRates a_averageRates a_sums a_historicAmounts a_holdings a_report a_report_amounts a_report_stepAmounts a_report_groupAmounts a_report_outsidersCredits a_report_openPlaces v_companies v_accounts v_reserve v_report_made v_report_companies v_report_accounts v_report_open) sz) h0 a_currencyOf a_sortOf a_closingRates a_averageRates a_sums a_historicAmounts a_holdings a_report a_report_amounts a_report_stepAmounts a_report_groupAmounts a_report_outsidersCredits a_report_openPlaces v_companies v_accounts v_reserve v_report_made v_report_companies v_report_accounts v_report_open post) 0 0 (va_A (WS_D_openItems cI cL cZ h0 a_currencyOf a_sortOf a_closingRates a_averageRates a_sums a_historicAmounts a_holdings a_report a_report_amounts a_report_stepAmounts a_report_groupAmounts a_report_outsidersCredits a_report_openPlaces v_companies v_accounts v_reserve v_report_made v_report_companies v_report_accounts v_report_open) sz) := by
  refine Met.ofW (cc := prog_1_method_16_code) (maxL := 1) (ret := (some .int)) (by decide) rfl ?_
  intro p e s m args below meth c s₁ B hml hv
  obtain ⟨rfl, hsz, hP, hK, hD0, hN⟩ := hv
  have hx := B.exec
  have hb := B.bytes
  have hr := B.returns
  have hts := atoms_spec (ws := ws_D_openItems) B.pre
  have hown : s.vm.findClass R_D = some m.cls := findClass_of_methodNamed B.named
  have hlocks := B.notSynchronized
  subst hsz
  have hD := hD0.self (sz := s.heap.size)
  generalize hAe : va_A (WS_D_openItems cI cL cZ h0 a_currencyOf a_sortOf a_closingRates a_averageRates a_sums a_historicAmounts a_holdings a_report a_report_amounts a_report_stepAmounts a_report_groupAmounts a_report_outsidersCredits a_report_openPlaces v_companies v_accounts v_reserve v_report_made v_report_companies v_report_accounts v_report_open) s.heap.size = A at hD ⊢
  have hA : ∀ q : Nat, s.heap.size ≤ q → A q := fun q h => by rw [← hAe]; exact Or.inr h
  have hS : va_S A s.heap s.heap [] := va_S.rf
  have hP : va_P (dC, dI) classes (WS_D_openItems cI cL cZ h0 a_currencyOf a_sortOf a_closingRates a_averageRates a_sums a_historicAmounts a_holdings a_report a_report_amounts a_report_stepAmounts a_report_groupAmounts a_report_outsidersCredits a_report_openPlaces v_companies v_accounts v_reserve v_report_made v_report_companies v_report_accounts v_report_open) s.heap := hP
  have hl := lv_entry ([.ref h0]) (n := 1) (Nat.le_of_ble_eq_true rfl)
  rw [lg_entry_eq]
  generalize (lg_sl ([.ref h0]) ++ List.replicate (1 - (lg_sl ([.ref h0])).length) Slot.unset).toArray = ls at hl ⊢
  have hl : lv_has ls 1 [(0, .ref h0)] := hl
  unfold wp_D_openItems at hw
  refine (show ∀ (H : Heap) (locs : List Loc), va_P (dC, dI) classes (WS_D_openItems cI cL cZ h0 a_currencyOf a_sortOf a_closingRates a_averageRates a_sums a_historicAmounts a_holdings a_report a_report_amounts a_report_stepAmounts a_report_groupAmounts a_report_outsidersCredits a_report_openPlaces v_companies v_accounts v_reserve v_report_made v_report_companies v_report_accounts v_report_open) H → va_S A s.heap H locs → W p l e (headSpec ws_D_openItems rm_D_openItems).room s m ([.ref h0] : List Value).toArray below meth c H locs 0 0 (MQ below (QC_D_openItems dC dI cI cL cZ A h0 a_currencyOf a_sortOf a_closingRates a_averageRates a_sums a_historicAmounts a_holdings a_report a_report_amounts a_report_stepAmounts a_report_groupAmounts a_report_outsidersCredits a_report_openPlaces v_companies v_accounts v_reserve v_report_made v_report_companies v_report_accounts v_report_open post) ([.ref h0] : List Value).toArray s 0 0 A) (F0 m 0 ls []) from ?_) _ _ hP hS
  intro H locs hP hS
  refine lv_aload_n hx hb d_D_openItems_0 rfl (lv_at hl 0 rfl) ?_
  refine va_get (D := (dC, dI)) (ci := 2) (v := .ref a_report) (C := R_D) (T := F_D) (N := 11) hx hb hts (kx_in in_D) hown hK hP 0 rfl rfl 10 (by decide) (hts _ (kx_w iw_94)) (fun _ h9 => h9) rfl d_D_openItems_1 ?_
  refine kx_calli (ws' := fun u4 => (WS_D_openItems cI cL cZ h0 a_currencyOf a_sortOf a_closingRates a_averageRates a_sums a_historicAmounts a_holdings a_report a_report_amounts a_report_stepAmounts a_report_groupAmounts a_report_outsidersCredits a_report_openPlaces v_companies v_accounts v_reserve v_report_made v_report_companies v_report_accounts v_report_open)) (va_runV (As := []) (rest := []) ⟨hx, hb, hml, hown, hts⟩ (c_R_openCount l dC dI cI cL cZ a_report a_report_amounts a_report_stepAmounts a_report_groupAmounts a_report_outsidersCredits a_report_openPlaces v_report_made v_report_companies v_report_accounts v_report_open H.size  hw) ⟨(callB_of 0 hts (kx_good iw_342) rfl rfl rfl (hts _ (kx_w iw_3)) (hts _ (kx_w iw_339)) (by decide +kernel) ⟨Nat.le_of_ble_eq_true rfl, Nat.le_of_ble_eq_true rfl⟩), (hts _ (kx_w iw_340)), (hts _ (kx_w iw_341))⟩ (kx_preV hN hK hP hD [1] (by decide) rfl 1 rfl rfl) rfl rfl hl.1 rfl (lv_room (Nat.le_of_ble_eq_true rfl)) d_D_openItems_4 ⟨Nat.le_of_ble_eq_true rfl, Nat.le_of_ble_eq_true rfl⟩) hP hD hS hA [1] [0] rfl rfl (by decide) (by decide) [0, 1] (by decide) (fun _ => rfl) (fun r4 u4 H locs hw hP hD hS => ?_)
  have hP : va_P (dC, dI) classes (WS_D_openItems cI cL cZ h0 a_currencyOf a_sortOf a_closingRates a_averageRates a_sums a_historicAmounts a_holdings a_report a_report_amounts a_report_stepAmounts a_report_groupAmounts a_report_outsidersCredits a_report_openPlaces v_companies v_accounts v_reserve v_report_made v_report_companies v_report_accounts v_report_open) H := hP
  have hD : va_D A (WS_D_openItems cI cL cZ h0 a_currencyOf a_sortOf a_closingRates a_averageRates a_sums a_historicAmounts a_holdings a_report a_report_amounts a_report_stepAmounts a_report_groupAmounts a_report_outsidersCredits a_report_openPlaces v_companies v_accounts v_reserve v_report_made v_report_companies v_report_accounts v_report_open) := hD
  exact W.iret (v := r4) hx hb hr (fun t ht hW => ⟨⟨r4, (), rfl, hw, ⟨by rw [ht]; exact hP, hD⟩⟩, hS.F ht⟩) hS.2.2 d_D_openItems_7
/-! ConsolidationDesk.timesRate(JI)J -/
abbrev y_D_timesRate : MethodName := ⟨"ConsolidationDesk", "timesRate", "(JI)J"⟩
theorem d_D_timesRate_0 : decode prog_1_method_34_code 0 = .ok (.lload_n 0, 1) := by decide +kernel
theorem d_D_timesRate_1 : decode prog_1_method_34_code 1 = .ok (.invokestatic 198, 3) := by decide +kernel
theorem d_D_timesRate_4 : decode prog_1_method_34_code 4 = .ok (.lstore_n 3, 1) := by decide +kernel
theorem d_D_timesRate_5 : decode prog_1_method_34_code 5 = .ok (.lload_n 3, 1) := by decide +kernel
theorem d_D_timesRate_6 : decode prog_1_method_34_code 6 = .ok (.ldc2_w 202, 3) := by decide +kernel
theorem d_D_timesRate_9 : decode prog_1_method_34_code 9 = .ok (.ldiv, 1) := by decide +kernel
theorem d_D_timesRate_10 : decode prog_1_method_34_code 10 = .ok (.iload_n 2, 1) := by decide +kernel
theorem d_D_timesRate_11 : decode prog_1_method_34_code 11 = .ok (.i2l, 1) := by decide +kernel
theorem d_D_timesRate_12 : decode prog_1_method_34_code 12 = .ok (.lmul, 1) := by decide +kernel
theorem d_D_timesRate_13 : decode prog_1_method_34_code 13 = .ok (.lstore 5, 2) := by decide +kernel
theorem d_D_timesRate_15 : decode prog_1_method_34_code 15 = .ok (.lload_n 3, 1) := by decide +kernel
theorem d_D_timesRate_16 : decode prog_1_method_34_code 16 = .ok (.ldc2_w 202, 3) := by decide +kernel
theorem d_D_timesRate_19 : decode prog_1_method_34_code 19 = .ok (.lrem, 1) := by decide +kernel
theorem d_D_timesRate_20 : decode prog_1_method_34_code 20 = .ok (.iload_n 2, 1) := by decide +kernel
theorem d_D_timesRate_21 : decode prog_1_method_34_code 21 = .ok (.i2l, 1) := by decide +kernel
theorem d_D_timesRate_22 : decode prog_1_method_34_code 22 = .ok (.lmul, 1) := by decide +kernel
theorem d_D_timesRate_23 : decode prog_1_method_34_code 23 = .ok (.lstore 7, 2) := by decide +kernel
theorem d_D_timesRate_25 : decode prog_1_method_34_code 25 = .ok (.lload 5, 2) := by decide +kernel
theorem d_D_timesRate_27 : decode prog_1_method_34_code 27 = .ok (.lload 7, 2) := by decide +kernel
theorem d_D_timesRate_29 : decode prog_1_method_34_code 29 = .ok (.ldc2_w 204, 3) := by decide +kernel
theorem d_D_timesRate_32 : decode prog_1_method_34_code 32 = .ok (.ladd, 1) := by decide +kernel
theorem d_D_timesRate_33 : decode prog_1_method_34_code 33 = .ok (.ldc2_w 202, 3) := by decide +kernel
theorem d_D_timesRate_36 : decode prog_1_method_34_code 36 = .ok (.ldiv, 1) := by decide +kernel
theorem d_D_timesRate_37 : decode prog_1_method_34_code 37 = .ok (.ladd, 1) := by decide +kernel
theorem d_D_timesRate_38 : decode prog_1_method_34_code 38 = .ok (.lstore 9, 2) := by decide +kernel
theorem d_D_timesRate_40 : decode prog_1_method_34_code 40 = .ok (.lload_n 0, 1) := by decide +kernel
theorem d_D_timesRate_41 : decode prog_1_method_34_code 41 = .ok (.lconst 0, 1) := by decide +kernel
theorem d_D_timesRate_42 : decode prog_1_method_34_code 42 = .ok (.lcmp, 1) := by decide +kernel
theorem d_D_timesRate_43 : decode prog_1_method_34_code 43 = .ok (.ifCond .ge 9, 3) := by decide +kernel
theorem d_D_timesRate_46 : decode prog_1_method_34_code 46 = .ok (.lload 9, 2) := by decide +kernel
theorem d_D_timesRate_48 : decode prog_1_method_34_code 48 = .ok (.lneg, 1) := by decide +kernel
theorem d_D_timesRate_49 : decode prog_1_method_34_code 49 = .ok (.goto 5, 3) := by decide +kernel
theorem d_D_timesRate_52 : decode prog_1_method_34_code 52 = .ok (.lload 9, 2) := by decide +kernel
theorem d_D_timesRate_54 : decode prog_1_method_34_code 54 = .ok (.lreturn, 1) := by decide +kernel
abbrev WS_D_timesRate (cI cL cZ : ClassId)    : va_W := []
def wp_D_timesRate  (p0 : Int64) (p1 : Int32)  (post : Int64 → Unit → Prop) : Prop := (∀ x4 : Int64, x4 = (if 0 < p0 then p0 else -p0) → (∀ x13 : Int64, x13 = ((x4 / 1000000) * p1.toInt64) → (∀ x23 : Int64, x23 = ((x4 - x4 / 1000000 * 1000000) * p1.toInt64) → (∀ x38 : Int64, x38 = (x13 + ((x23 + 500000) / 1000000)) → ((0 ≤ p0 → post x38 ()) ∧ (¬ 0 ≤ p0 → post (-x38) ()))))))
abbrev ws_D_timesRate : List Cond := .code y_D_timesRate prog_1_method_34_code 11 (some .long) :: kxW
abbrev rm_D_timesRate : Room := { frames := 1, cells := 0, slots := 0, locals := 60 }
abbrev QC_D_timesRate (dC : Nat → ClassId) (dI : Nat → Nat → Nat) (cI cL cZ : ClassId) (A : Nat → Prop)    (post : Int64 → Unit → Prop) : Array Value → State → Outcome → State → Prop := va_Ql post (fun (u : Unit) t => kx_B (dC, dI) classes A (WS_D_timesRate cI cL cZ ) t) A
set_option maxHeartbeats 4000000 in
set_option maxRecDepth 100000 in
theorem c_D_timesRate (l : Launch) (dC : Nat → ClassId) (dI : Nat → Nat → Nat) (cI cL cZ : ClassId)    (sz : Nat) (p0 : Int64) (p1 : Int32) {post : Int64 → Unit → Prop} (hw : wp_D_timesRate p0 p1 post) : Met l y_D_timesRate ws_D_timesRate rm_D_timesRate (kx_Pc (dC, dI) classes (kx_T cI cL cZ) (WS_D_timesRate cI cL cZ ) sz [.long p0, .int p1]) (QC_D_timesRate dC dI cI cL cZ (va_A (WS_D_timesRate cI cL cZ ) sz)  post) 0 0 (va_A (WS_D_timesRate cI cL cZ ) sz) := by
  refine Met.ofW (cc := prog_1_method_34_code) (maxL := 11) (ret := (some .long)) (by decide) rfl ?_
  intro p e s m args below meth c s₁ B hml hv
  obtain ⟨rfl, hsz, hP, hK, hD0, hN⟩ := hv
  have hx := B.exec
  have hb := B.bytes
  have hr := B.returns
  have hts := atoms_spec (ws := ws_D_timesRate) B.pre
  have hown : s.vm.findClass R_D = some m.cls := findClass_of_methodNamed B.named
  have hlocks := B.notSynchronized
  subst hsz
  have hD := hD0.self (sz := s.heap.size)
  generalize hAe : va_A (WS_D_timesRate cI cL cZ ) s.heap.size = A at hD ⊢
  have hA : ∀ q : Nat, s.heap.size ≤ q → A q := fun q h => by rw [← hAe]; exact Or.inr h
  have hS : va_S A s.heap s.heap [] := va_S.rf
  have hP : va_P (dC, dI) classes (WS_D_timesRate cI cL cZ ) s.heap := hP
  have hl := lv_entry ([.long p0, .int p1]) (n := 11) (Nat.le_of_ble_eq_true rfl)
  rw [lg_entry_eq]
  generalize (lg_sl ([.long p0, .int p1]) ++ List.replicate (11 - (lg_sl ([.long p0, .int p1])).length) Slot.unset).toArray = ls at hl ⊢
  have hl : lv_has ls 11 [(0, .long p0), (2, .int p1)] := hl
  unfold wp_D_timesRate at hw
  refine (show ∀ (H : Heap) (locs : List Loc), va_P (dC, dI) classes (WS_D_timesRate cI cL cZ ) H → va_S A s.heap H locs → W p l e (headSpec ws_D_timesRate rm_D_timesRate).room s m ([.long p0, .int p1] : List Value).toArray below meth c H locs 0 0 (MQ below (QC_D_timesRate dC dI cI cL cZ A post) ([.long p0, .int p1] : List Value).toArray s 0 0 A) (F0 m 0 ls []) from ?_) _ _ hP hS
  intro H locs hP hS
  refine lv_lload_n hx hb d_D_timesRate_0 rfl (lv_at hl 0 rfl) ?_
  refine va_mabs_long hx hb (by rw [hml]; exact hl.1.symm) hown (hts _ (kx_w iw_279)) (hts _ (kx_w iw_280)) (hts _ (kx_w iw_6)) (hts _ (kx_w iw_281)) (Nat.le_of_ble_eq_true rfl) (Nat.le_of_ble_eq_true rfl) (Nat.le_of_ble_eq_true rfl) (Nat.le_of_ble_eq_true rfl) d_D_timesRate_1 ?_
  refine lv_topl (fun x4 e4 => ?_)
  have hw := hw x4 e4
  refine lv_lstore_n (lv' := [(3, .long x4), (0, .long p0), (2, .int p1)]) hx hb d_D_timesRate_4 rfl hl (by decide) rfl (fun ls hl => ?_)
  refine lv_lload_n hx hb d_D_timesRate_5 rfl (lv_at hl 0 rfl) ?_
  refine lv_ldc2 (v := 1000000) hx hb hown (hts _ (kx_w iw_282)) d_D_timesRate_6 ?_
  refine lv_ldiv hx hb d_D_timesRate_9 (by decide) ?_
  refine lv_iload_n hx hb d_D_timesRate_10 rfl (lv_at hl 2 rfl) ?_
  refine lv_i2l hx hb d_D_timesRate_11 rfl ?_
  refine lv_lmul hx hb d_D_timesRate_12 ?_
  refine lv_topl (fun x13 e13 => ?_)
  have hw := hw x13 e13
  refine lv_lstore (lv' := [(5, .long x13), (3, .long x4), (0, .long p0), (2, .int p1)]) hx hb d_D_timesRate_13 hl (by decide) rfl (fun ls hl => ?_)
  refine lv_lload_n hx hb d_D_timesRate_15 rfl (lv_at hl 1 rfl) ?_
  refine lv_ldc2 (v := 1000000) hx hb hown (hts _ (kx_w iw_282)) d_D_timesRate_16 ?_
  refine lv_lrem hx hb d_D_timesRate_19 (by decide) ?_
  refine lv_iload_n hx hb d_D_timesRate_20 rfl (lv_at hl 3 rfl) ?_
  refine lv_i2l hx hb d_D_timesRate_21 rfl ?_
  refine lv_lmul hx hb d_D_timesRate_22 ?_
  refine lv_topl (fun x23 e23 => ?_)
  have hw := hw x23 e23
  refine lv_lstore (lv' := [(7, .long x23), (5, .long x13), (3, .long x4), (0, .long p0), (2, .int p1)]) hx hb d_D_timesRate_23 hl (by decide) rfl (fun ls hl => ?_)
  refine lv_lload hx hb d_D_timesRate_25 (lv_at hl 1 rfl) ?_
  refine lv_lload hx hb d_D_timesRate_27 (lv_at hl 0 rfl) ?_
  refine lv_ldc2 (v := 500000) hx hb hown (hts _ (kx_w iw_283)) d_D_timesRate_29 ?_
  refine lv_ladd hx hb d_D_timesRate_32 ?_
  refine lv_ldc2 (v := 1000000) hx hb hown (hts _ (kx_w iw_282)) d_D_timesRate_33 ?_
  refine lv_ldiv hx hb d_D_timesRate_36 (by decide) ?_
  refine lv_ladd hx hb d_D_timesRate_37 ?_
  refine lv_topl (fun x38 e38 => ?_)
  have hw := hw x38 e38
  refine lv_lstore (lv' := [(9, .long x38), (7, .long x23), (5, .long x13), (3, .long x4), (0, .long p0), (2, .int p1)]) hx hb d_D_timesRate_38 hl (by decide) rfl (fun ls hl => ?_)
  refine lv_lload_n hx hb d_D_timesRate_40 rfl (lv_at hl 4 rfl) ?_
  refine lv_lconst (v := 0) hx hb d_D_timesRate_41 (by decide) ?_
  refine W.lcmp hx hb d_D_timesRate_42 ?_
  refine lv_if_ge (tgt := 52) hx hb d_D_timesRate_43 rfl (fun hc => ?_) (fun hc => ?_)
  ·
    have hc := (lc_ge _ _).mp hc
    have hw := hw.1 hc
    refine lv_lload hx hb d_D_timesRate_52 (lv_at hl 0 rfl) ?_
    exact W.lret (v := x38) hx hb hr (fun t ht hW => ⟨⟨x38, (), rfl, hw, ⟨by rw [ht]; exact hP, hD⟩⟩, hS.F ht⟩) hS.2.2 d_D_timesRate_54
  ·
    have hc := mt (lc_ge _ _).mpr hc
    have hw := hw.2 hc
    refine lv_lload hx hb d_D_timesRate_46 (lv_at hl 0 rfl) ?_
    refine lv_lneg hx hb d_D_timesRate_48 ?_
    refine lv_goto (tgt := 54) hx hb d_D_timesRate_49 rfl ?_
    exact W.lret (v := (-x38)) hx hb hr (fun t ht hW => ⟨⟨(-x38), (), rfl, hw, ⟨by rw [ht]; exact hP, hD⟩⟩, hS.F ht⟩) hS.2.2 d_D_timesRate_54
/-! ConsolidationDesk.timesShare(JJ)J -/
abbrev y_D_timesShare : MethodName := ⟨"ConsolidationDesk", "timesShare", "(JJ)J"⟩
theorem d_D_timesShare_0 : decode prog_1_method_35_code 0 = .ok (.lload_n 0, 1) := by decide +kernel
theorem d_D_timesShare_1 : decode prog_1_method_35_code 1 = .ok (.invokestatic 198, 3) := by decide +kernel
theorem d_D_timesShare_4 : decode prog_1_method_35_code 4 = .ok (.lstore 4, 2) := by decide +kernel
theorem d_D_timesShare_6 : decode prog_1_method_35_code 6 = .ok (.lload 4, 2) := by decide +kernel
theorem d_D_timesShare_8 : decode prog_1_method_35_code 8 = .ok (.ldc2_w 206, 3) := by decide +kernel
theorem d_D_timesShare_11 : decode prog_1_method_35_code 11 = .ok (.ldiv, 1) := by decide +kernel
theorem d_D_timesShare_12 : decode prog_1_method_35_code 12 = .ok (.lstore 6, 2) := by decide +kernel
theorem d_D_timesShare_14 : decode prog_1_method_35_code 14 = .ok (.lload 4, 2) := by decide +kernel
theorem d_D_timesShare_16 : decode prog_1_method_35_code 16 = .ok (.ldc2_w 206, 3) := by decide +kernel
theorem d_D_timesShare_19 : decode prog_1_method_35_code 19 = .ok (.lrem, 1) := by decide +kernel
theorem d_D_timesShare_20 : decode prog_1_method_35_code 20 = .ok (.lstore 8, 2) := by decide +kernel
theorem d_D_timesShare_22 : decode prog_1_method_35_code 22 = .ok (.lload_n 2, 1) := by decide +kernel
theorem d_D_timesShare_23 : decode prog_1_method_35_code 23 = .ok (.ldc2_w 206, 3) := by decide +kernel
theorem d_D_timesShare_26 : decode prog_1_method_35_code 26 = .ok (.ldiv, 1) := by decide +kernel
theorem d_D_timesShare_27 : decode prog_1_method_35_code 27 = .ok (.lstore 10, 2) := by decide +kernel
theorem d_D_timesShare_29 : decode prog_1_method_35_code 29 = .ok (.lload_n 2, 1) := by decide +kernel
theorem d_D_timesShare_30 : decode prog_1_method_35_code 30 = .ok (.ldc2_w 206, 3) := by decide +kernel
theorem d_D_timesShare_33 : decode prog_1_method_35_code 33 = .ok (.lrem, 1) := by decide +kernel
theorem d_D_timesShare_34 : decode prog_1_method_35_code 34 = .ok (.lstore 12, 2) := by decide +kernel
theorem d_D_timesShare_36 : decode prog_1_method_35_code 36 = .ok (.lload 6, 2) := by decide +kernel
theorem d_D_timesShare_38 : decode prog_1_method_35_code 38 = .ok (.lload 12, 2) := by decide +kernel
theorem d_D_timesShare_40 : decode prog_1_method_35_code 40 = .ok (.lmul, 1) := by decide +kernel
theorem d_D_timesShare_41 : decode prog_1_method_35_code 41 = .ok (.lload 8, 2) := by decide +kernel
theorem d_D_timesShare_43 : decode prog_1_method_35_code 43 = .ok (.lload 10, 2) := by decide +kernel
theorem d_D_timesShare_45 : decode prog_1_method_35_code 45 = .ok (.lmul, 1) := by decide +kernel
theorem d_D_timesShare_46 : decode prog_1_method_35_code 46 = .ok (.ladd, 1) := by decide +kernel
theorem d_D_timesShare_47 : decode prog_1_method_35_code 47 = .ok (.lstore 14, 2) := by decide +kernel
theorem d_D_timesShare_49 : decode prog_1_method_35_code 49 = .ok (.lload 14, 2) := by decide +kernel
theorem d_D_timesShare_51 : decode prog_1_method_35_code 51 = .ok (.ldc2_w 206, 3) := by decide +kernel
theorem d_D_timesShare_54 : decode prog_1_method_35_code 54 = .ok (.lrem, 1) := by decide +kernel
theorem d_D_timesShare_55 : decode prog_1_method_35_code 55 = .ok (.ldc2_w 206, 3) := by decide +kernel
theorem d_D_timesShare_58 : decode prog_1_method_35_code 58 = .ok (.lmul, 1) := by decide +kernel
theorem d_D_timesShare_59 : decode prog_1_method_35_code 59 = .ok (.lload 8, 2) := by decide +kernel
theorem d_D_timesShare_61 : decode prog_1_method_35_code 61 = .ok (.lload 12, 2) := by decide +kernel
theorem d_D_timesShare_63 : decode prog_1_method_35_code 63 = .ok (.lmul, 1) := by decide +kernel
theorem d_D_timesShare_64 : decode prog_1_method_35_code 64 = .ok (.ladd, 1) := by decide +kernel
theorem d_D_timesShare_65 : decode prog_1_method_35_code 65 = .ok (.lstore 16, 2) := by decide +kernel
theorem d_D_timesShare_67 : decode prog_1_method_35_code 67 = .ok (.lload 6, 2) := by decide +kernel
theorem d_D_timesShare_69 : decode prog_1_method_35_code 69 = .ok (.lload 10, 2) := by decide +kernel
theorem d_D_timesShare_71 : decode prog_1_method_35_code 71 = .ok (.lmul, 1) := by decide +kernel
theorem d_D_timesShare_72 : decode prog_1_method_35_code 72 = .ok (.lload 14, 2) := by decide +kernel
theorem d_D_timesShare_74 : decode prog_1_method_35_code 74 = .ok (.ldc2_w 206, 3) := by decide +kernel
theorem d_D_timesShare_77 : decode prog_1_method_35_code 77 = .ok (.ldiv, 1) := by decide +kernel
theorem d_D_timesShare_78 : decode prog_1_method_35_code 78 = .ok (.ladd, 1) := by decide +kernel
theorem d_D_timesShare_79 : decode prog_1_method_35_code 79 = .ok (.lload 16, 2) := by decide +kernel
theorem d_D_timesShare_81 : decode prog_1_method_35_code 81 = .ok (.ldc2_w 208, 3) := by decide +kernel
theorem d_D_timesShare_84 : decode prog_1_method_35_code 84 = .ok (.ladd, 1) := by decide +kernel
theorem d_D_timesShare_85 : decode prog_1_method_35_code 85 = .ok (.ldc2_w 188, 3) := by decide +kernel
theorem d_D_timesShare_88 : decode prog_1_method_35_code 88 = .ok (.ldiv, 1) := by decide +kernel
theorem d_D_timesShare_89 : decode prog_1_method_35_code 89 = .ok (.ladd, 1) := by decide +kernel
theorem d_D_timesShare_90 : decode prog_1_method_35_code 90 = .ok (.lstore 18, 2) := by decide +kernel
theorem d_D_timesShare_92 : decode prog_1_method_35_code 92 = .ok (.lload_n 0, 1) := by decide +kernel
theorem d_D_timesShare_93 : decode prog_1_method_35_code 93 = .ok (.lconst 0, 1) := by decide +kernel
theorem d_D_timesShare_94 : decode prog_1_method_35_code 94 = .ok (.lcmp, 1) := by decide +kernel
theorem d_D_timesShare_95 : decode prog_1_method_35_code 95 = .ok (.ifCond .ge 9, 3) := by decide +kernel
theorem d_D_timesShare_98 : decode prog_1_method_35_code 98 = .ok (.lload 18, 2) := by decide +kernel
theorem d_D_timesShare_100 : decode prog_1_method_35_code 100 = .ok (.lneg, 1) := by decide +kernel
theorem d_D_timesShare_101 : decode prog_1_method_35_code 101 = .ok (.goto 5, 3) := by decide +kernel
theorem d_D_timesShare_104 : decode prog_1_method_35_code 104 = .ok (.lload 18, 2) := by decide +kernel
theorem d_D_timesShare_106 : decode prog_1_method_35_code 106 = .ok (.lreturn, 1) := by decide +kernel
abbrev WS_D_timesShare (cI cL cZ : ClassId)    : va_W := []
def wp_D_timesShare  (p0 : Int64) (p1 : Int64)  (post : Int64 → Unit → Prop) : Prop := (∀ x4 : Int64, x4 = (if 0 < p0 then p0 else -p0) → (∀ x12 : Int64, x12 = (x4 / 100000000) → (∀ x20 : Int64, x20 = (x4 - x4 / 100000000 * 100000000) → (∀ x27 : Int64, x27 = (p1 / 100000000) → (∀ x34 : Int64, x34 = (p1 - p1 / 100000000 * 100000000) → (∀ x47 : Int64, x47 = ((x12 * x34) + (x20 * x27)) → (∀ x65 : Int64, x65 = (((x47 - x47 / 100000000 * 100000000) * 100000000) + (x20 * x34)) → (∀ x90 : Int64, x90 = (((x12 * x27) + (x47 / 100000000)) + ((x65 + 5000000000000000) / 10000000000000000)) → ((0 ≤ p0 → post x90 ()) ∧ (¬ 0 ≤ p0 → post (-x90) ()))))))))))
abbrev ws_D_timesShare : List Cond := .code y_D_timesShare prog_1_method_35_code 20 (some .long) :: kxW
abbrev rm_D_timesShare : Room := { frames := 1, cells := 0, slots := 0, locals := 60 }
abbrev QC_D_timesShare (dC : Nat → ClassId) (dI : Nat → Nat → Nat) (cI cL cZ : ClassId) (A : Nat → Prop)    (post : Int64 → Unit → Prop) : Array Value → State → Outcome → State → Prop := va_Ql post (fun (u : Unit) t => kx_B (dC, dI) classes A (WS_D_timesShare cI cL cZ ) t) A
set_option maxHeartbeats 4000000 in
set_option maxRecDepth 100000 in
theorem c_D_timesShare (l : Launch) (dC : Nat → ClassId) (dI : Nat → Nat → Nat) (cI cL cZ : ClassId)    (sz : Nat) (p0 : Int64) (p1 : Int64) {post : Int64 → Unit → Prop} (hw : wp_D_timesShare p0 p1 post) : Met l y_D_timesShare ws_D_timesShare rm_D_timesShare (kx_Pc (dC, dI) classes (kx_T cI cL cZ) (WS_D_timesShare cI cL cZ ) sz [.long p0, .long p1]) (QC_D_timesShare dC dI cI cL cZ (va_A (WS_D_timesShare cI cL cZ ) sz)  post) 0 0 (va_A (WS_D_timesShare cI cL cZ ) sz) := by
  refine Met.ofW (cc := prog_1_method_35_code) (maxL := 20) (ret := (some .long)) (by decide) rfl ?_
  intro p e s m args below meth c s₁ B hml hv
  obtain ⟨rfl, hsz, hP, hK, hD0, hN⟩ := hv
  have hx := B.exec
  have hb := B.bytes
  have hr := B.returns
  have hts := atoms_spec (ws := ws_D_timesShare) B.pre
  have hown : s.vm.findClass R_D = some m.cls := findClass_of_methodNamed B.named
  have hlocks := B.notSynchronized
  subst hsz
  have hD := hD0.self (sz := s.heap.size)
  generalize hAe : va_A (WS_D_timesShare cI cL cZ ) s.heap.size = A at hD ⊢
  have hA : ∀ q : Nat, s.heap.size ≤ q → A q := fun q h => by rw [← hAe]; exact Or.inr h
  have hS : va_S A s.heap s.heap [] := va_S.rf
  have hP : va_P (dC, dI) classes (WS_D_timesShare cI cL cZ ) s.heap := hP
  have hl := lv_entry ([.long p0, .long p1]) (n := 20) (Nat.le_of_ble_eq_true rfl)
  rw [lg_entry_eq]
  generalize (lg_sl ([.long p0, .long p1]) ++ List.replicate (20 - (lg_sl ([.long p0, .long p1])).length) Slot.unset).toArray = ls at hl ⊢
  have hl : lv_has ls 20 [(0, .long p0), (2, .long p1)] := hl
  unfold wp_D_timesShare at hw
  refine (show ∀ (H : Heap) (locs : List Loc), va_P (dC, dI) classes (WS_D_timesShare cI cL cZ ) H → va_S A s.heap H locs → W p l e (headSpec ws_D_timesShare rm_D_timesShare).room s m ([.long p0, .long p1] : List Value).toArray below meth c H locs 0 0 (MQ below (QC_D_timesShare dC dI cI cL cZ A post) ([.long p0, .long p1] : List Value).toArray s 0 0 A) (F0 m 0 ls []) from ?_) _ _ hP hS
  intro H locs hP hS
  refine lv_lload_n hx hb d_D_timesShare_0 rfl (lv_at hl 0 rfl) ?_
  refine va_mabs_long hx hb (by rw [hml]; exact hl.1.symm) hown (hts _ (kx_w iw_279)) (hts _ (kx_w iw_280)) (hts _ (kx_w iw_6)) (hts _ (kx_w iw_281)) (Nat.le_of_ble_eq_true rfl) (Nat.le_of_ble_eq_true rfl) (Nat.le_of_ble_eq_true rfl) (Nat.le_of_ble_eq_true rfl) d_D_timesShare_1 ?_
  refine lv_topl (fun x4 e4 => ?_)
  have hw := hw x4 e4
  refine lv_lstore (lv' := [(4, .long x4), (0, .long p0), (2, .long p1)]) hx hb d_D_timesShare_4 hl (by decide) rfl (fun ls hl => ?_)
  refine lv_lload hx hb d_D_timesShare_6 (lv_at hl 0 rfl) ?_
  refine lv_ldc2 (v := 100000000) hx hb hown (hts _ (kx_w iw_324)) d_D_timesShare_8 ?_
  refine lv_ldiv hx hb d_D_timesShare_11 (by decide) ?_
  refine lv_topl (fun x12 e12 => ?_)
  have hw := hw x12 e12
  refine lv_lstore (lv' := [(6, .long x12), (4, .long x4), (0, .long p0), (2, .long p1)]) hx hb d_D_timesShare_12 hl (by decide) rfl (fun ls hl => ?_)
  refine lv_lload hx hb d_D_timesShare_14 (lv_at hl 1 rfl) ?_
  refine lv_ldc2 (v := 100000000) hx hb hown (hts _ (kx_w iw_324)) d_D_timesShare_16 ?_
  refine lv_lrem hx hb d_D_timesShare_19 (by decide) ?_
  refine lv_topl (fun x20 e20 => ?_)
  have hw := hw x20 e20
  refine lv_lstore (lv' := [(8, .long x20), (6, .long x12), (4, .long x4), (0, .long p0), (2, .long p1)]) hx hb d_D_timesShare_20 hl (by decide) rfl (fun ls hl => ?_)
  refine lv_lload_n hx hb d_D_timesShare_22 rfl (lv_at hl 4 rfl) ?_
  refine lv_ldc2 (v := 100000000) hx hb hown (hts _ (kx_w iw_324)) d_D_timesShare_23 ?_
  refine lv_ldiv hx hb d_D_timesShare_26 (by decide) ?_
  refine lv_topl (fun x27 e27 => ?_)
  have hw := hw x27 e27
  refine lv_lstore (lv' := [(10, .long x27), (8, .long x20), (6, .long x12), (4, .long x4), (0, .long p0), (2, .long p1)]) hx hb d_D_timesShare_27 hl (by decide) rfl (fun ls hl => ?_)
  refine lv_lload_n hx hb d_D_timesShare_29 rfl (lv_at hl 5 rfl) ?_
  refine lv_ldc2 (v := 100000000) hx hb hown (hts _ (kx_w iw_324)) d_D_timesShare_30 ?_
  refine lv_lrem hx hb d_D_timesShare_33 (by decide) ?_
  refine lv_topl (fun x34 e34 => ?_)
  have hw := hw x34 e34
  refine lv_lstore (lv' := [(12, .long x34), (10, .long x27), (8, .long x20), (6, .long x12), (4, .long x4), (0, .long p0), (2, .long p1)]) hx hb d_D_timesShare_34 hl (by decide) rfl (fun ls hl => ?_)
  refine lv_lload hx hb d_D_timesShare_36 (lv_at hl 3 rfl) ?_
  refine lv_lload hx hb d_D_timesShare_38 (lv_at hl 0 rfl) ?_
  refine lv_lmul hx hb d_D_timesShare_40 ?_
  refine lv_lload hx hb d_D_timesShare_41 (lv_at hl 2 rfl) ?_
  refine lv_lload hx hb d_D_timesShare_43 (lv_at hl 1 rfl) ?_
  refine lv_lmul hx hb d_D_timesShare_45 ?_
  refine lv_ladd hx hb d_D_timesShare_46 ?_
  refine lv_topl (fun x47 e47 => ?_)
  have hw := hw x47 e47
  refine lv_lstore (lv' := [(14, .long x47), (12, .long x34), (10, .long x27), (8, .long x20), (6, .long x12), (4, .long x4), (0, .long p0), (2, .long p1)]) hx hb d_D_timesShare_47 hl (by decide) rfl (fun ls hl => ?_)
  refine lv_lload hx hb d_D_timesShare_49 (lv_at hl 0 rfl) ?_
  refine lv_ldc2 (v := 100000000) hx hb hown (hts _ (kx_w iw_324)) d_D_timesShare_51 ?_
  refine lv_lrem hx hb d_D_timesShare_54 (by decide) ?_
  refine lv_ldc2 (v := 100000000) hx hb hown (hts _ (kx_w iw_324)) d_D_timesShare_55 ?_
  refine lv_lmul hx hb d_D_timesShare_58 ?_
  refine lv_lload hx hb d_D_timesShare_59 (lv_at hl 3 rfl) ?_
  refine lv_lload hx hb d_D_timesShare_61 (lv_at hl 1 rfl) ?_
  refine lv_lmul hx hb d_D_timesShare_63 ?_
  refine lv_ladd hx hb d_D_timesShare_64 ?_
  refine lv_topl (fun x65 e65 => ?_)
  have hw := hw x65 e65
  refine lv_lstore (lv' := [(16, .long x65), (14, .long x47), (12, .long x34), (10, .long x27), (8, .long x20), (6, .long x12), (4, .long x4), (0, .long p0), (2, .long p1)]) hx hb d_D_timesShare_65 hl (by decide) rfl (fun ls hl => ?_)
  refine lv_lload hx hb d_D_timesShare_67 (lv_at hl 5 rfl) ?_
  refine lv_lload hx hb d_D_timesShare_69 (lv_at hl 3 rfl) ?_
  refine lv_lmul hx hb d_D_timesShare_71 ?_
  refine lv_lload hx hb d_D_timesShare_72 (lv_at hl 1 rfl) ?_
  refine lv_ldc2 (v := 100000000) hx hb hown (hts _ (kx_w iw_324)) d_D_timesShare_74 ?_
  refine lv_ldiv hx hb d_D_timesShare_77 (by decide) ?_
  refine lv_ladd hx hb d_D_timesShare_78 ?_
  refine lv_lload hx hb d_D_timesShare_79 (lv_at hl 0 rfl) ?_
  refine lv_ldc2 (v := 5000000000000000) hx hb hown (hts _ (kx_w iw_325)) d_D_timesShare_81 ?_
  refine lv_ladd hx hb d_D_timesShare_84 ?_
  refine lv_ldc2 (v := 10000000000000000) hx hb hown (hts _ (kx_w iw_320)) d_D_timesShare_85 ?_
  refine lv_ldiv hx hb d_D_timesShare_88 (by decide) ?_
  refine lv_ladd hx hb d_D_timesShare_89 ?_
  refine lv_topl (fun x90 e90 => ?_)
  have hw := hw x90 e90
  refine lv_lstore (lv' := [(18, .long x90), (16, .long x65), (14, .long x47), (12, .long x34), (10, .long x27), (8, .long x20), (6, .long x12), (4, .long x4), (0, .long p0), (2, .long p1)]) hx hb d_D_timesShare_90 hl (by decide) rfl (fun ls hl => ?_)
  refine lv_lload_n hx hb d_D_timesShare_92 rfl (lv_at hl 8 rfl) ?_
  refine lv_lconst (v := 0) hx hb d_D_timesShare_93 (by decide) ?_
  refine W.lcmp hx hb d_D_timesShare_94 ?_
  refine lv_if_ge (tgt := 104) hx hb d_D_timesShare_95 rfl (fun hc => ?_) (fun hc => ?_)
  ·
    have hc := (lc_ge _ _).mp hc
    have hw := hw.1 hc
    refine lv_lload hx hb d_D_timesShare_104 (lv_at hl 0 rfl) ?_
    exact W.lret (v := x90) hx hb hr (fun t ht hW => ⟨⟨x90, (), rfl, hw, ⟨by rw [ht]; exact hP, hD⟩⟩, hS.F ht⟩) hS.2.2 d_D_timesShare_106
  ·
    have hc := mt (lc_ge _ _).mpr hc
    have hw := hw.2 hc
    refine lv_lload hx hb d_D_timesShare_98 (lv_at hl 0 rfl) ?_
    refine lv_lneg hx hb d_D_timesShare_100 ?_
    refine lv_goto (tgt := 106) hx hb d_D_timesShare_101 rfl ?_
    exact W.lret (v := (-x90)) hx hb hr (fun t ht hW => ⟨⟨(-x90), (), rfl, hw, ⟨by rw [ht]; exact hP, hD⟩⟩, hS.F ht⟩) hS.2.2 d_D_timesShare_106
