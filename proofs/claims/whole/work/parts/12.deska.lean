/-! ConsolidationDesk.isCurrency(I)Z -/
abbrev y_D_isCurrency : MethodName := ⟨"ConsolidationDesk", "isCurrency", "(I)Z"⟩
theorem d_D_isCurrency_0 : decode prog_1_method_18_code 0 = .ok (.iload_n 0, 1) := by decide +kernel
theorem d_D_isCurrency_1 : decode prog_1_method_18_code 1 = .ok (.ifCond .lt 12, 3) := by decide +kernel
theorem d_D_isCurrency_4 : decode prog_1_method_18_code 4 = .ok (.iload_n 0, 1) := by decide +kernel
theorem d_D_isCurrency_5 : decode prog_1_method_18_code 5 = .ok (.iconst 4, 1) := by decide +kernel
theorem d_D_isCurrency_6 : decode prog_1_method_18_code 6 = .ok (.if_icmp .ge 7, 3) := by decide +kernel
theorem d_D_isCurrency_9 : decode prog_1_method_18_code 9 = .ok (.iconst 1, 1) := by decide +kernel
theorem d_D_isCurrency_10 : decode prog_1_method_18_code 10 = .ok (.goto 4, 3) := by decide +kernel
theorem d_D_isCurrency_13 : decode prog_1_method_18_code 13 = .ok (.iconst 0, 1) := by decide +kernel
theorem d_D_isCurrency_14 : decode prog_1_method_18_code 14 = .ok (.ireturn, 1) := by decide +kernel
abbrev WS_D_isCurrency (cI cL cZ : ClassId)    : va_W := []
def wp_D_isCurrency  (p0 : Int32)  (post : Int32 → Unit → Prop) : Prop := ((p0 < 0 → post 0 ()) ∧ (¬ p0 < 0 → ((4 ≤ p0 → post 0 ()) ∧ (¬ 4 ≤ p0 → post 1 ()))))
abbrev ws_D_isCurrency : List Cond := .code y_D_isCurrency prog_1_method_18_code 1 (some .boolean) :: kxW
abbrev rm_D_isCurrency : Room := { frames := 0, cells := 0, slots := 0, locals := 0 }
abbrev QC_D_isCurrency (dC : Nat → ClassId) (dI : Nat → Nat → Nat) (cI cL cZ : ClassId) (A : Nat → Prop)    (post : Int32 → Unit → Prop) : Array Value → State → Outcome → State → Prop := va_Qi post (fun (u : Unit) t => kx_B (dC, dI) classes A (WS_D_isCurrency cI cL cZ ) t) A
set_option maxHeartbeats 4000000 in
set_option maxRecDepth 100000 in
theorem c_D_isCurrency (l : Launch) (dC : Nat → ClassId) (dI : Nat → Nat → Nat) (cI cL cZ : ClassId)    (sz : Nat) (p0 : Int32) {post : Int32 → Unit → Prop} (hw : wp_D_isCurrency p0 post) : Met l y_D_isCurrency ws_D_isCurrency rm_D_isCurrency (kx_Pc (dC, dI) classes (kx_T cI cL cZ) (WS_D_isCurrency cI cL cZ ) sz [.int p0]) (QC_D_isCurrency dC dI cI cL cZ (va_A (WS_D_isCurrency cI cL cZ ) sz)  post) 0 0 (va_A (WS_D_isCurrency cI cL cZ ) sz) := by
  refine Met.ofW (cc := prog_1_method_18_code) (maxL := 1) (ret := (some .boolean)) (by decide) rfl ?_
  intro p e s m args below meth c s₁ B hml hv
  obtain ⟨rfl, hsz, hP, hK, hD0, hN⟩ := hv
  have hx := B.exec
  have hb := B.bytes
  have hr := B.returns
  have hts := atoms_spec (ws := ws_D_isCurrency) B.pre
  have hown : s.vm.findClass R_D = some m.cls := findClass_of_methodNamed B.named
  have hlocks := B.notSynchronized
  subst hsz
  have hD := hD0.self (sz := s.heap.size)
  generalize hAe : va_A (WS_D_isCurrency cI cL cZ ) s.heap.size = A at hD ⊢
  have hA : ∀ q : Nat, s.heap.size ≤ q → A q := fun q h => by rw [← hAe]; exact Or.inr h
  have hS : va_S A s.heap s.heap [] := va_S.rf
  have hP : va_P (dC, dI) classes (WS_D_isCurrency cI cL cZ ) s.heap := hP
  have hl := lv_entry ([.int p0]) (n := 1) (Nat.le_of_ble_eq_true rfl)
  rw [lg_entry_eq]
  generalize (lg_sl ([.int p0]) ++ List.replicate (1 - (lg_sl ([.int p0])).length) Slot.unset).toArray = ls at hl ⊢
  have hl : lv_has ls 1 [(0, .int p0)] := hl
  unfold wp_D_isCurrency at hw
  refine (show ∀ (H : Heap) (locs : List Loc), va_P (dC, dI) classes (WS_D_isCurrency cI cL cZ ) H → va_S A s.heap H locs → W p l e (headSpec ws_D_isCurrency rm_D_isCurrency).room s m ([.int p0] : List Value).toArray below meth c H locs 0 0 (MQ below (QC_D_isCurrency dC dI cI cL cZ A post) ([.int p0] : List Value).toArray s 0 0 A) (F0 m 0 ls []) from ?_) _ _ hP hS
  intro H locs hP hS
  refine lv_iload_n hx hb d_D_isCurrency_0 rfl (lv_at hl 0 rfl) ?_
  refine lv_if_lt (tgt := 13) hx hb d_D_isCurrency_1 rfl (fun hc => ?_) (fun hc => ?_)
  ·
    have hw := hw.1 hc
    refine lv_iconst (v := 0) hx hb d_D_isCurrency_13 (by decide) ?_
    exact W.zret (v := 0) hx hb hr (by decide) (fun t ht hW => ⟨⟨0, (), rfl, hw, ⟨by rw [ht]; exact hP, hD⟩⟩, hS.F ht⟩) hS.2.2 d_D_isCurrency_14
  ·
    have hw := hw.2 hc
    refine lv_iload_n hx hb d_D_isCurrency_4 rfl (lv_at hl 0 rfl) ?_
    refine lv_iconst (v := 4) hx hb d_D_isCurrency_5 (by decide) ?_
    refine lv_icmp_ge (tgt := 13) hx hb d_D_isCurrency_6 rfl (fun hc => ?_) (fun hc => ?_)
    ·
      have hw := hw.1 hc
      refine lv_iconst (v := 0) hx hb d_D_isCurrency_13 (by decide) ?_
      exact W.zret (v := 0) hx hb hr (by decide) (fun t ht hW => ⟨⟨0, (), rfl, hw, ⟨by rw [ht]; exact hP, hD⟩⟩, hS.F ht⟩) hS.2.2 d_D_isCurrency_14
    ·
      have hw := hw.2 hc
      refine lv_iconst (v := 1) hx hb d_D_isCurrency_9 (by decide) ?_
      refine lv_goto (tgt := 14) hx hb d_D_isCurrency_10 rfl ?_
      exact W.zret (v := 1) hx hb hr (by decide) (fun t ht hW => ⟨⟨1, (), rfl, hw, ⟨by rw [ht]; exact hP, hD⟩⟩, hS.F ht⟩) hS.2.2 d_D_isCurrency_14
/-! ConsolidationDesk.isRate(I)Z -/
abbrev y_D_isRate : MethodName := ⟨"ConsolidationDesk", "isRate", "(I)Z"⟩
theorem d_D_isRate_0 : decode prog_1_method_19_code 0 = .ok (.iload_n 0, 1) := by decide +kernel
theorem d_D_isRate_1 : decode prog_1_method_19_code 1 = .ok (.iconst 1, 1) := by decide +kernel
theorem d_D_isRate_2 : decode prog_1_method_19_code 2 = .ok (.if_icmp .lt 13, 3) := by decide +kernel
theorem d_D_isRate_5 : decode prog_1_method_19_code 5 = .ok (.iload_n 0, 1) := by decide +kernel
theorem d_D_isRate_6 : decode prog_1_method_19_code 6 = .ok (.ldc 155, 2) := by decide +kernel
theorem d_D_isRate_8 : decode prog_1_method_19_code 8 = .ok (.if_icmp .gt 7, 3) := by decide +kernel
theorem d_D_isRate_11 : decode prog_1_method_19_code 11 = .ok (.iconst 1, 1) := by decide +kernel
theorem d_D_isRate_12 : decode prog_1_method_19_code 12 = .ok (.goto 4, 3) := by decide +kernel
theorem d_D_isRate_15 : decode prog_1_method_19_code 15 = .ok (.iconst 0, 1) := by decide +kernel
theorem d_D_isRate_16 : decode prog_1_method_19_code 16 = .ok (.ireturn, 1) := by decide +kernel
abbrev WS_D_isRate (cI cL cZ : ClassId)    : va_W := []
def wp_D_isRate  (p0 : Int32)  (post : Int32 → Unit → Prop) : Prop := ((p0 < 1 → post 0 ()) ∧ (¬ p0 < 1 → ((1000000000 < p0 → post 0 ()) ∧ (¬ 1000000000 < p0 → post 1 ()))))
abbrev ws_D_isRate : List Cond := .code y_D_isRate prog_1_method_19_code 1 (some .boolean) :: kxW
abbrev rm_D_isRate : Room := { frames := 0, cells := 0, slots := 0, locals := 0 }
abbrev QC_D_isRate (dC : Nat → ClassId) (dI : Nat → Nat → Nat) (cI cL cZ : ClassId) (A : Nat → Prop)    (post : Int32 → Unit → Prop) : Array Value → State → Outcome → State → Prop := va_Qi post (fun (u : Unit) t => kx_B (dC, dI) classes A (WS_D_isRate cI cL cZ ) t) A
set_option maxHeartbeats 4000000 in
set_option maxRecDepth 100000 in
theorem c_D_isRate (l : Launch) (dC : Nat → ClassId) (dI : Nat → Nat → Nat) (cI cL cZ : ClassId)    (sz : Nat) (p0 : Int32) {post : Int32 → Unit → Prop} (hw : wp_D_isRate p0 post) : Met l y_D_isRate ws_D_isRate rm_D_isRate (kx_Pc (dC, dI) classes (kx_T cI cL cZ) (WS_D_isRate cI cL cZ ) sz [.int p0]) (QC_D_isRate dC dI cI cL cZ (va_A (WS_D_isRate cI cL cZ ) sz)  post) 0 0 (va_A (WS_D_isRate cI cL cZ ) sz) := by
  refine Met.ofW (cc := prog_1_method_19_code) (maxL := 1) (ret := (some .boolean)) (by decide) rfl ?_
  intro p e s m args below meth c s₁ B hml hv
  obtain ⟨rfl, hsz, hP, hK, hD0, hN⟩ := hv
  have hx := B.exec
  have hb := B.bytes
  have hr := B.returns
  have hts := atoms_spec (ws := ws_D_isRate) B.pre
  have hown : s.vm.findClass R_D = some m.cls := findClass_of_methodNamed B.named
  have hlocks := B.notSynchronized
  subst hsz
  have hD := hD0.self (sz := s.heap.size)
  generalize hAe : va_A (WS_D_isRate cI cL cZ ) s.heap.size = A at hD ⊢
  have hA : ∀ q : Nat, s.heap.size ≤ q → A q := fun q h => by rw [← hAe]; exact Or.inr h
  have hS : va_S A s.heap s.heap [] := va_S.rf
  have hP : va_P (dC, dI) classes (WS_D_isRate cI cL cZ ) s.heap := hP
  have hl := lv_entry ([.int p0]) (n := 1) (Nat.le_of_ble_eq_true rfl)
  rw [lg_entry_eq]
  generalize (lg_sl ([.int p0]) ++ List.replicate (1 - (lg_sl ([.int p0])).length) Slot.unset).toArray = ls at hl ⊢
  have hl : lv_has ls 1 [(0, .int p0)] := hl
  unfold wp_D_isRate at hw
  refine (show ∀ (H : Heap) (locs : List Loc), va_P (dC, dI) classes (WS_D_isRate cI cL cZ ) H → va_S A s.heap H locs → W p l e (headSpec ws_D_isRate rm_D_isRate).room s m ([.int p0] : List Value).toArray below meth c H locs 0 0 (MQ below (QC_D_isRate dC dI cI cL cZ A post) ([.int p0] : List Value).toArray s 0 0 A) (F0 m 0 ls []) from ?_) _ _ hP hS
  intro H locs hP hS
  refine lv_iload_n hx hb d_D_isRate_0 rfl (lv_at hl 0 rfl) ?_
  refine lv_iconst (v := 1) hx hb d_D_isRate_1 (by decide) ?_
  refine lv_icmp_lt (tgt := 15) hx hb d_D_isRate_2 rfl (fun hc => ?_) (fun hc => ?_)
  ·
    have hw := hw.1 hc
    refine lv_iconst (v := 0) hx hb d_D_isRate_15 (by decide) ?_
    exact W.zret (v := 0) hx hb hr (by decide) (fun t ht hW => ⟨⟨0, (), rfl, hw, ⟨by rw [ht]; exact hP, hD⟩⟩, hS.F ht⟩) hS.2.2 d_D_isRate_16
  ·
    have hw := hw.2 hc
    refine lv_iload_n hx hb d_D_isRate_5 rfl (lv_at hl 0 rfl) ?_
    refine lv_ldc (v := 1000000000) hx hb hown (hts _ (kx_w iw_189)) d_D_isRate_6 ?_
    refine lv_icmp_gt (tgt := 15) hx hb d_D_isRate_8 rfl (fun hc => ?_) (fun hc => ?_)
    ·
      have hw := hw.1 hc
      refine lv_iconst (v := 0) hx hb d_D_isRate_15 (by decide) ?_
      exact W.zret (v := 0) hx hb hr (by decide) (fun t ht hW => ⟨⟨0, (), rfl, hw, ⟨by rw [ht]; exact hP, hD⟩⟩, hS.F ht⟩) hS.2.2 d_D_isRate_16
    ·
      have hw := hw.2 hc
      refine lv_iconst (v := 1) hx hb d_D_isRate_11 (by decide) ?_
      refine lv_goto (tgt := 16) hx hb d_D_isRate_12 rfl ?_
      exact W.zret (v := 1) hx hb hr (by decide) (fun t ht hW => ⟨⟨1, (), rfl, hw, ⟨by rw [ht]; exact hP, hD⟩⟩, hS.F ht⟩) hS.2.2 d_D_isRate_16
/-! ConsolidationDesk.isCompany(I)Z -/
abbrev y_D_isCompany : MethodName := ⟨"ConsolidationDesk", "isCompany", "(I)Z"⟩
theorem d_D_isCompany_0 : decode prog_1_method_20_code 0 = .ok (.iload_n 1, 1) := by decide +kernel
theorem d_D_isCompany_1 : decode prog_1_method_20_code 1 = .ok (.ifCond .lt 15, 3) := by decide +kernel
theorem d_D_isCompany_4 : decode prog_1_method_20_code 4 = .ok (.iload_n 1, 1) := by decide +kernel
theorem d_D_isCompany_5 : decode prog_1_method_20_code 5 = .ok (.aload_n 0, 1) := by decide +kernel
theorem d_D_isCompany_6 : decode prog_1_method_20_code 6 = .ok (.getfield 9, 3) := by decide +kernel
theorem d_D_isCompany_9 : decode prog_1_method_20_code 9 = .ok (.if_icmp .ge 7, 3) := by decide +kernel
theorem d_D_isCompany_12 : decode prog_1_method_20_code 12 = .ok (.iconst 1, 1) := by decide +kernel
theorem d_D_isCompany_13 : decode prog_1_method_20_code 13 = .ok (.goto 4, 3) := by decide +kernel
theorem d_D_isCompany_16 : decode prog_1_method_20_code 16 = .ok (.iconst 0, 1) := by decide +kernel
theorem d_D_isCompany_17 : decode prog_1_method_20_code 17 = .ok (.ireturn, 1) := by decide +kernel
abbrev WS_D_isCompany (cI cL cZ : ClassId)  (h0 a_currencyOf a_sortOf a_closingRates a_averageRates a_sums a_historicAmounts a_holdings a_report : Nat) (v_companies : Int32) (v_accounts : Int32) (v_reserve : Int32) : va_W := [(h0, .inr (2, [.int v_companies, .ref a_currencyOf, .int v_accounts, .ref a_sortOf, .int v_reserve, .ref a_closingRates, .ref a_averageRates, .ref a_sums, .ref a_historicAmounts, .ref a_holdings, .ref a_report]))]
def wp_D_isCompany  (p0 : Int32) (v_companies : Int32) (post : Int32 → Unit → Prop) : Prop := ((p0 < 0 → post 0 ()) ∧ (¬ p0 < 0 → ((v_companies ≤ p0 → post 0 ()) ∧ (¬ v_companies ≤ p0 → post 1 ()))))
abbrev ws_D_isCompany : List Cond := .code y_D_isCompany prog_1_method_20_code 2 (some .boolean) :: kxW
abbrev rm_D_isCompany : Room := { frames := 0, cells := 0, slots := 0, locals := 0 }
abbrev QC_D_isCompany (dC : Nat → ClassId) (dI : Nat → Nat → Nat) (cI cL cZ : ClassId) (A : Nat → Prop)  (h0 a_currencyOf a_sortOf a_closingRates a_averageRates a_sums a_historicAmounts a_holdings a_report : Nat) (v_companies : Int32) (v_accounts : Int32) (v_reserve : Int32) (post : Int32 → Unit → Prop) : Array Value → State → Outcome → State → Prop := va_Qi post (fun (u : Unit) t => kx_B (dC, dI) classes A (WS_D_isCompany cI cL cZ h0 a_currencyOf a_sortOf a_closingRates a_averageRates a_sums a_historicAmounts a_holdings a_report v_companies v_accounts v_reserve) t) A
set_option maxHeartbeats 4000000 in
set_option maxRecDepth 100000 in
theorem c_D_isCompany (l : Launch) (dC : Nat → ClassId) (dI : Nat → Nat → Nat) (cI cL cZ : ClassId)  (h0 a_currencyOf a_sortOf a_closingRates a_averageRates a_sums a_historicAmounts a_holdings a_report : Nat) (v_companies : Int32) (v_accounts : Int32) (v_reserve : Int32) (sz : Nat) (p0 : Int32) {post : Int32 → Unit → Prop} (hw : wp_D_isCompany p0 v_companies post) : Met l y_D_isCompany ws_D_isCompany rm_D_isCompany (kx_Pc (dC, dI) classes (kx_T cI cL cZ) (WS_D_isCompany cI cL cZ h0 a_currencyOf a_sortOf a_closingRates a_averageRates a_sums a_historicAmounts a_holdings a_report v_companies v_accounts v_reserve) sz [.ref h0, .int p0]) (QC_D_isCompany dC dI cI cL cZ (va_A (WS_D_isCompany cI cL cZ h0 a_currencyOf a_sortOf a_closingRates a_averageRates a_sums a_historicAmounts a_holdings a_report v_companies v_accounts v_reserve) sz) h0 a_currencyOf a_sortOf a_closingRates a_averageRates a_sums a_historicAmounts a_holdings a_report v_companies v_accounts v_reserve post) 0 0 (va_A (WS_D_isCompany cI cL cZ h0 a_currencyOf a_sortOf a_closingRates a_averageRates a_sums a_historicAmounts a_holdings a_report v_companies v_accounts v_reserve) sz) := by
  refine Met.ofW (cc := prog_1_method_20_code) (maxL := 2) (ret := (some .boolean)) (by decide) rfl ?_
  intro p e s m args below meth c s₁ B hml hv
  obtain ⟨rfl, hsz, hP, hK, hD0, hN⟩ := hv
  have hx := B.exec
  have hb := B.bytes
  have hr := B.returns
  have hts := atoms_spec (ws := ws_D_isCompany) B.pre
  have hown : s.vm.findClass R_D = some m.cls := findClass_of_methodNamed B.named
  have hlocks := B.notSynchronized
  subst hsz
  have hD := hD0.self (sz := s.heap.size)
  generalize hAe : va_A (WS_D_isCompany cI cL cZ h0 a_currencyOf a_sortOf a_closingRates a_averageRates a_sums a_historicAmounts a_holdings a_report v_companies v_accounts v_reserve) s.heap.size = A at hD ⊢
  have hA : ∀ q : Nat, s.heap.size ≤ q → A q := fun q h => by rw [← hAe]; exact Or.inr h
  have hS : va_S A s.heap s.heap [] := va_S.rf
  have hP : va_P (dC, dI) classes (WS_D_isCompany cI cL cZ h0 a_currencyOf a_sortOf a_closingRates a_averageRates a_sums a_historicAmounts a_holdings a_report v_companies v_accounts v_reserve) s.heap := hP
  have hl := lv_entry ([.ref h0, .int p0]) (n := 2) (Nat.le_of_ble_eq_true rfl)
  rw [lg_entry_eq]
  generalize (lg_sl ([.ref h0, .int p0]) ++ List.replicate (2 - (lg_sl ([.ref h0, .int p0])).length) Slot.unset).toArray = ls at hl ⊢
  have hl : lv_has ls 2 [(0, .ref h0), (1, .int p0)] := hl
  unfold wp_D_isCompany at hw
  refine (show ∀ (H : Heap) (locs : List Loc), va_P (dC, dI) classes (WS_D_isCompany cI cL cZ h0 a_currencyOf a_sortOf a_closingRates a_averageRates a_sums a_historicAmounts a_holdings a_report v_companies v_accounts v_reserve) H → va_S A s.heap H locs → W p l e (headSpec ws_D_isCompany rm_D_isCompany).room s m ([.ref h0, .int p0] : List Value).toArray below meth c H locs 0 0 (MQ below (QC_D_isCompany dC dI cI cL cZ A h0 a_currencyOf a_sortOf a_closingRates a_averageRates a_sums a_historicAmounts a_holdings a_report v_companies v_accounts v_reserve post) ([.ref h0, .int p0] : List Value).toArray s 0 0 A) (F0 m 0 ls []) from ?_) _ _ hP hS
  intro H locs hP hS
  refine lv_iload_n hx hb d_D_isCompany_0 rfl (lv_at hl 1 rfl) ?_
  refine lv_if_lt (tgt := 16) hx hb d_D_isCompany_1 rfl (fun hc => ?_) (fun hc => ?_)
  ·
    have hw := hw.1 hc
    refine lv_iconst (v := 0) hx hb d_D_isCompany_16 (by decide) ?_
    exact W.zret (v := 0) hx hb hr (by decide) (fun t ht hW => ⟨⟨0, (), rfl, hw, ⟨by rw [ht]; exact hP, hD⟩⟩, hS.F ht⟩) hS.2.2 d_D_isCompany_17
  ·
    have hw := hw.2 hc
    refine lv_iload_n hx hb d_D_isCompany_4 rfl (lv_at hl 1 rfl) ?_
    refine lv_aload_n hx hb d_D_isCompany_5 rfl (lv_at hl 0 rfl) ?_
    refine va_get (D := (dC, dI)) (ci := 2) (v := .int v_companies) (C := R_D) (T := F_D) (N := 11) hx hb hts (kx_in in_D) hown hK hP 0 rfl rfl 0 (by decide) (hts _ (kx_w iw_84)) (fun _ h9 => h9) rfl d_D_isCompany_6 ?_
    refine lv_icmp_ge (tgt := 16) hx hb d_D_isCompany_9 rfl (fun hc => ?_) (fun hc => ?_)
    ·
      have hw := hw.1 hc
      refine lv_iconst (v := 0) hx hb d_D_isCompany_16 (by decide) ?_
      exact W.zret (v := 0) hx hb hr (by decide) (fun t ht hW => ⟨⟨0, (), rfl, hw, ⟨by rw [ht]; exact hP, hD⟩⟩, hS.F ht⟩) hS.2.2 d_D_isCompany_17
    ·
      have hw := hw.2 hc
      refine lv_iconst (v := 1) hx hb d_D_isCompany_12 (by decide) ?_
      refine lv_goto (tgt := 17) hx hb d_D_isCompany_13 rfl ?_
      exact W.zret (v := 1) hx hb hr (by decide) (fun t ht hW => ⟨⟨1, (), rfl, hw, ⟨by rw [ht]; exact hP, hD⟩⟩, hS.F ht⟩) hS.2.2 d_D_isCompany_17
/-! ConsolidationDesk.isAccount(I)Z -/
abbrev y_D_isAccount : MethodName := ⟨"ConsolidationDesk", "isAccount", "(I)Z"⟩
theorem d_D_isAccount_0 : decode prog_1_method_21_code 0 = .ok (.iload_n 1, 1) := by decide +kernel
theorem d_D_isAccount_1 : decode prog_1_method_21_code 1 = .ok (.ifCond .lt 15, 3) := by decide +kernel
theorem d_D_isAccount_4 : decode prog_1_method_21_code 4 = .ok (.iload_n 1, 1) := by decide +kernel
theorem d_D_isAccount_5 : decode prog_1_method_21_code 5 = .ok (.aload_n 0, 1) := by decide +kernel
theorem d_D_isAccount_6 : decode prog_1_method_21_code 6 = .ok (.getfield 17, 3) := by decide +kernel
theorem d_D_isAccount_9 : decode prog_1_method_21_code 9 = .ok (.if_icmp .ge 7, 3) := by decide +kernel
theorem d_D_isAccount_12 : decode prog_1_method_21_code 12 = .ok (.iconst 1, 1) := by decide +kernel
theorem d_D_isAccount_13 : decode prog_1_method_21_code 13 = .ok (.goto 4, 3) := by decide +kernel
theorem d_D_isAccount_16 : decode prog_1_method_21_code 16 = .ok (.iconst 0, 1) := by decide +kernel
theorem d_D_isAccount_17 : decode prog_1_method_21_code 17 = .ok (.ireturn, 1) := by decide +kernel
abbrev WS_D_isAccount (cI cL cZ : ClassId)  (h0 a_currencyOf a_sortOf a_closingRates a_averageRates a_sums a_historicAmounts a_holdings a_report : Nat) (v_companies : Int32) (v_accounts : Int32) (v_reserve : Int32) : va_W := [(h0, .inr (2, [.int v_companies, .ref a_currencyOf, .int v_accounts, .ref a_sortOf, .int v_reserve, .ref a_closingRates, .ref a_averageRates, .ref a_sums, .ref a_historicAmounts, .ref a_holdings, .ref a_report]))]
def wp_D_isAccount  (p0 : Int32) (v_accounts : Int32) (post : Int32 → Unit → Prop) : Prop := ((p0 < 0 → post 0 ()) ∧ (¬ p0 < 0 → ((v_accounts ≤ p0 → post 0 ()) ∧ (¬ v_accounts ≤ p0 → post 1 ()))))
abbrev ws_D_isAccount : List Cond := .code y_D_isAccount prog_1_method_21_code 2 (some .boolean) :: kxW
abbrev rm_D_isAccount : Room := { frames := 0, cells := 0, slots := 0, locals := 0 }
abbrev QC_D_isAccount (dC : Nat → ClassId) (dI : Nat → Nat → Nat) (cI cL cZ : ClassId) (A : Nat → Prop)  (h0 a_currencyOf a_sortOf a_closingRates a_averageRates a_sums a_historicAmounts a_holdings a_report : Nat) (v_companies : Int32) (v_accounts : Int32) (v_reserve : Int32) (post : Int32 → Unit → Prop) : Array Value → State → Outcome → State → Prop := va_Qi post (fun (u : Unit) t => kx_B (dC, dI) classes A (WS_D_isAccount cI cL cZ h0 a_currencyOf a_sortOf a_closingRates a_averageRates a_sums a_historicAmounts a_holdings a_report v_companies v_accounts v_reserve) t) A
set_option maxHeartbeats 4000000 in
set_option maxRecDepth 100000 in
theorem c_D_isAccount (l : Launch) (dC : Nat → ClassId) (dI : Nat → Nat → Nat) (cI cL cZ : ClassId)  (h0 a_currencyOf a_sortOf a_closingRates a_averageRates a_sums a_historicAmounts a_holdings a_report : Nat) (v_companies : Int32) (v_accounts : Int32) (v_reserve : Int32) (sz : Nat) (p0 : Int32) {post : Int32 → Unit → Prop} (hw : wp_D_isAccount p0 v_accounts post) : Met l y_D_isAccount ws_D_isAccount rm_D_isAccount (kx_Pc (dC, dI) classes (kx_T cI cL cZ) (WS_D_isAccount cI cL cZ h0 a_currencyOf a_sortOf a_closingRates a_averageRates a_sums a_historicAmounts a_holdings a_report v_companies v_accounts v_reserve) sz [.ref h0, .int p0]) (QC_D_isAccount dC dI cI cL cZ (va_A (WS_D_isAccount cI cL cZ h0 a_currencyOf a_sortOf a_closingRates a_averageRates a_sums a_historicAmounts a_holdings a_report v_companies v_accounts v_reserve) sz) h0 a_currencyOf a_sortOf a_closingRates a_averageRates a_sums a_historicAmounts a_holdings a_report v_companies v_accounts v_reserve post) 0 0 (va_A (WS_D_isAccount cI cL cZ h0 a_currencyOf a_sortOf a_closingRates a_averageRates a_sums a_historicAmounts a_holdings a_report v_companies v_accounts v_reserve) sz) := by
  refine Met.ofW (cc := prog_1_method_21_code) (maxL := 2) (ret := (some .boolean)) (by decide) rfl ?_
  intro p e s m args below meth c s₁ B hml hv
  obtain ⟨rfl, hsz, hP, hK, hD0, hN⟩ := hv
  have hx := B.exec
  have hb := B.bytes
  have hr := B.returns
  have hts := atoms_spec (ws := ws_D_isAccount) B.pre
  have hown : s.vm.findClass R_D = some m.cls := findClass_of_methodNamed B.named
  have hlocks := B.notSynchronized
  subst hsz
  have hD := hD0.self (sz := s.heap.size)
  generalize hAe : va_A (WS_D_isAccount cI cL cZ h0 a_currencyOf a_sortOf a_closingRates a_averageRates a_sums a_historicAmounts a_holdings a_report v_companies v_accounts v_reserve) s.heap.size = A at hD ⊢
  have hA : ∀ q : Nat, s.heap.size ≤ q → A q := fun q h => by rw [← hAe]; exact Or.inr h
  have hS : va_S A s.heap s.heap [] := va_S.rf
  have hP : va_P (dC, dI) classes (WS_D_isAccount cI cL cZ h0 a_currencyOf a_sortOf a_closingRates a_averageRates a_sums a_historicAmounts a_holdings a_report v_companies v_accounts v_reserve) s.heap := hP
  have hl := lv_entry ([.ref h0, .int p0]) (n := 2) (Nat.le_of_ble_eq_true rfl)
  rw [lg_entry_eq]
  generalize (lg_sl ([.ref h0, .int p0]) ++ List.replicate (2 - (lg_sl ([.ref h0, .int p0])).length) Slot.unset).toArray = ls at hl ⊢
  have hl : lv_has ls 2 [(0, .ref h0), (1, .int p0)] := hl
  unfold wp_D_isAccount at hw
  refine (show ∀ (H : Heap) (locs : List Loc), va_P (dC, dI) classes (WS_D_isAccount cI cL cZ h0 a_currencyOf a_sortOf a_closingRates a_averageRates a_sums a_historicAmounts a_holdings a_report v_companies v_accounts v_reserve) H → va_S A s.heap H locs → W p l e (headSpec ws_D_isAccount rm_D_isAccount).room s m ([.ref h0, .int p0] : List Value).toArray below meth c H locs 0 0 (MQ below (QC_D_isAccount dC dI cI cL cZ A h0 a_currencyOf a_sortOf a_closingRates a_averageRates a_sums a_historicAmounts a_holdings a_report v_companies v_accounts v_reserve post) ([.ref h0, .int p0] : List Value).toArray s 0 0 A) (F0 m 0 ls []) from ?_) _ _ hP hS
  intro H locs hP hS
  refine lv_iload_n hx hb d_D_isAccount_0 rfl (lv_at hl 1 rfl) ?_
  refine lv_if_lt (tgt := 16) hx hb d_D_isAccount_1 rfl (fun hc => ?_) (fun hc => ?_)
  ·
    have hw := hw.1 hc
    refine lv_iconst (v := 0) hx hb d_D_isAccount_16 (by decide) ?_
    exact W.zret (v := 0) hx hb hr (by decide) (fun t ht hW => ⟨⟨0, (), rfl, hw, ⟨by rw [ht]; exact hP, hD⟩⟩, hS.F ht⟩) hS.2.2 d_D_isAccount_17
  ·
    have hw := hw.2 hc
    refine lv_iload_n hx hb d_D_isAccount_4 rfl (lv_at hl 1 rfl) ?_
    refine lv_aload_n hx hb d_D_isAccount_5 rfl (lv_at hl 0 rfl) ?_
    refine va_get (D := (dC, dI)) (ci := 2) (v := .int v_accounts) (C := R_D) (T := F_D) (N := 11) hx hb hts (kx_in in_D) hown hK hP 0 rfl rfl 2 (by decide) (hts _ (kx_w iw_86)) (fun _ h9 => h9) rfl d_D_isAccount_6 ?_
    refine lv_icmp_ge (tgt := 16) hx hb d_D_isAccount_9 rfl (fun hc => ?_) (fun hc => ?_)
    ·
      have hw := hw.1 hc
      refine lv_iconst (v := 0) hx hb d_D_isAccount_16 (by decide) ?_
      exact W.zret (v := 0) hx hb hr (by decide) (fun t ht hW => ⟨⟨0, (), rfl, hw, ⟨by rw [ht]; exact hP, hD⟩⟩, hS.F ht⟩) hS.2.2 d_D_isAccount_17
    ·
      have hw := hw.2 hc
      refine lv_iconst (v := 1) hx hb d_D_isAccount_12 (by decide) ?_
      refine lv_goto (tgt := 17) hx hb d_D_isAccount_13 rfl ?_
      exact W.zret (v := 1) hx hb hr (by decide) (fun t ht hW => ⟨⟨1, (), rfl, hw, ⟨by rw [ht]; exact hP, hD⟩⟩, hS.F ht⟩) hS.2.2 d_D_isAccount_17
/-! ConsolidationDesk.isPartnerOf(II)Z -/
abbrev y_D_isPartnerOf : MethodName := ⟨"ConsolidationDesk", "isPartnerOf", "(II)Z"⟩
theorem d_D_isPartnerOf_0 : decode prog_1_method_22_code 0 = .ok (.iload_n 2, 1) := by decide +kernel
theorem d_D_isPartnerOf_1 : decode prog_1_method_22_code 1 = .ok (.iconst (-1), 1) := by decide +kernel
theorem d_D_isPartnerOf_2 : decode prog_1_method_22_code 2 = .ok (.if_icmp .eq 16, 3) := by decide +kernel
theorem d_D_isPartnerOf_5 : decode prog_1_method_22_code 5 = .ok (.aload_n 0, 1) := by decide +kernel
theorem d_D_isPartnerOf_6 : decode prog_1_method_22_code 6 = .ok (.iload_n 2, 1) := by decide +kernel
theorem d_D_isPartnerOf_7 : decode prog_1_method_22_code 7 = .ok (.invokevirtual 58, 3) := by decide +kernel
theorem d_D_isPartnerOf_10 : decode prog_1_method_22_code 10 = .ok (.ifCond .eq 12, 3) := by decide +kernel
theorem d_D_isPartnerOf_13 : decode prog_1_method_22_code 13 = .ok (.iload_n 2, 1) := by decide +kernel
theorem d_D_isPartnerOf_14 : decode prog_1_method_22_code 14 = .ok (.iload_n 1, 1) := by decide +kernel
theorem d_D_isPartnerOf_15 : decode prog_1_method_22_code 15 = .ok (.if_icmp .eq 7, 3) := by decide +kernel
theorem d_D_isPartnerOf_18 : decode prog_1_method_22_code 18 = .ok (.iconst 1, 1) := by decide +kernel
theorem d_D_isPartnerOf_19 : decode prog_1_method_22_code 19 = .ok (.goto 4, 3) := by decide +kernel
theorem d_D_isPartnerOf_22 : decode prog_1_method_22_code 22 = .ok (.iconst 0, 1) := by decide +kernel
theorem d_D_isPartnerOf_23 : decode prog_1_method_22_code 23 = .ok (.ireturn, 1) := by decide +kernel
abbrev WS_D_isPartnerOf (cI cL cZ : ClassId)  (h0 a_currencyOf a_sortOf a_closingRates a_averageRates a_sums a_historicAmounts a_holdings a_report : Nat) (v_companies : Int32) (v_accounts : Int32) (v_reserve : Int32) : va_W := [(h0, .inr (2, [.int v_companies, .ref a_currencyOf, .int v_accounts, .ref a_sortOf, .int v_reserve, .ref a_closingRates, .ref a_averageRates, .ref a_sums, .ref a_historicAmounts, .ref a_holdings, .ref a_report]))]
def wp_D_isPartnerOf  (p0 : Int32) (p1 : Int32) (v_companies : Int32) (post : Int32 → Unit → Prop) : Prop := ((p1 = (-1) → post 1 ()) ∧ (¬ p1 = (-1) → (wp_D_isCompany p1 v_companies (fun (r7 : Int32) (u7 : Unit) => ((r7 = 0 → post 0 ()) ∧ (¬ r7 = 0 → ((p1 = p0 → post 0 ()) ∧ (¬ p1 = p0 → post 1 ()))))))))
abbrev ws_D_isPartnerOf : List Cond := .code y_D_isPartnerOf prog_1_method_22_code 3 (some .boolean) :: kxW
abbrev rm_D_isPartnerOf : Room := { frames := 1, cells := 0, slots := 0, locals := 21 }
abbrev QC_D_isPartnerOf (dC : Nat → ClassId) (dI : Nat → Nat → Nat) (cI cL cZ : ClassId) (A : Nat → Prop)  (h0 a_currencyOf a_sortOf a_closingRates a_averageRates a_sums a_historicAmounts a_holdings a_report : Nat) (v_companies : Int32) (v_accounts : Int32) (v_reserve : Int32) (post : Int32 → Unit → Prop) : Array Value → State → Outcome → State → Prop := va_Qi post (fun (u : Unit) t => kx_B (dC, dI) classes A (WS_D_isPartnerOf cI cL cZ h0 a_currencyOf a_sortOf a_closingRates a_averageRates a_sums a_historicAmounts a_holdings a_report v_companies v_accounts v_reserve) t) A
set_option maxHeartbeats 4000000 in
set_option maxRecDepth 100000 in
theorem c_D_isPartnerOf (l : Launch) (dC : Nat → ClassId) (dI : Nat → Nat → Nat) (cI cL cZ : ClassId)  (h0 a_currencyOf a_sortOf a_closingRates a_averageRates a_sums a_historicAmounts a_holdings a_report : Nat) (v_companies : Int32) (v_accounts : Int32) (v_reserve : Int32) (sz : Nat) (p0 : Int32) (p1 : Int32) {post : Int32 → Unit → Prop} (hw : wp_D_isPartnerOf p0 p1 v_companies post) : Met l y_D_isPartnerOf ws_D_isPartnerOf rm_D_isPartnerOf (kx_Pc (dC, dI) classes (kx_T cI cL cZ) (WS_D_isPartnerOf cI cL cZ h0 a_currencyOf a_sortOf a_closingRates a_averageRates a_sums a_historicAmounts a_holdings a_report v_companies v_accounts v_reserve) sz [.ref h0, .int p0, .int p1]) (QC_D_isPartnerOf dC dI cI cL cZ (va_A (WS_D_isPartnerOf cI cL cZ h0 a_currencyOf a_sortOf a_closingRates a_averageRates a_sums a_historicAmounts a_holdings a_report v_companies v_accounts v_reserve) sz) h0 a_currencyOf a_sortOf a_closingRates a_averageRates a_sums a_historicAmounts a_holdings a_report v_companies v_accounts v_reserve post) 0 0 (va_A (WS_D_isPartnerOf cI cL cZ h0 a_currencyOf a_sortOf a_closingRates a_averageRates a_sums a_historicAmounts a_holdings a_report v_companies v_accounts v_reserve) sz) := by
  refine Met.ofW (cc := prog_1_method_22_code) (maxL := 3) (ret := (some .boolean)) (by decide) rfl ?_
  intro p e s m args below meth c s₁ B hml hv
  obtain ⟨rfl, hsz, hP, hK, hD0, hN⟩ := hv
  have hx := B.exec
  have hb := B.bytes
  have hr := B.returns
  have hts := atoms_spec (ws := ws_D_isPartnerOf) B.pre
  have hown : s.vm.findClass R_D = some m.cls := findClass_of_methodNamed B.named
  have hlocks := B.notSynchronized
  subst hsz
  have hD := hD0.self (sz := s.heap.size)
  generalize hAe : va_A (WS_D_isPartnerOf cI cL cZ h0 a_currencyOf a_sortOf a_closingRates a_averageRates a_sums a_historicAmounts a_holdings a_report v_companies v_accounts v_reserve) s.heap.size = A at hD ⊢
  have hA : ∀ q : Nat, s.heap.size ≤ q → A q := fun q h => by rw [← hAe]; exact Or.inr h
  have hS : va_S A s.heap s.heap [] := va_S.rf
  have hP : va_P (dC, dI) classes (WS_D_isPartnerOf cI cL cZ h0 a_currencyOf a_sortOf a_closingRates a_averageRates a_sums a_historicAmounts a_holdings a_report v_companies v_accounts v_reserve) s.heap := hP
  have hl := lv_entry ([.ref h0, .int p0, .int p1]) (n := 3) (Nat.le_of_ble_eq_true rfl)
  rw [lg_entry_eq]
  generalize (lg_sl ([.ref h0, .int p0, .int p1]) ++ List.replicate (3 - (lg_sl ([.ref h0, .int p0, .int p1])).length) Slot.unset).toArray = ls at hl ⊢
  have hl : lv_has ls 3 [(0, .ref h0), (1, .int p0), (2, .int p1)] := hl
  unfold wp_D_isPartnerOf at hw
  refine (show ∀ (H : Heap) (locs : List Loc), va_P (dC, dI) classes (WS_D_isPartnerOf cI cL cZ h0 a_currencyOf a_sortOf a_closingRates a_averageRates a_sums a_historicAmounts a_holdings a_report v_companies v_accounts v_reserve) H → va_S A s.heap H locs → W p l e (headSpec ws_D_isPartnerOf rm_D_isPartnerOf).room s m ([.ref h0, .int p0, .int p1] : List Value).toArray below meth c H locs 0 0 (MQ below (QC_D_isPartnerOf dC dI cI cL cZ A h0 a_currencyOf a_sortOf a_closingRates a_averageRates a_sums a_historicAmounts a_holdings a_report v_companies v_accounts v_reserve post) ([.ref h0, .int p0, .int p1] : List Value).toArray s 0 0 A) (F0 m 0 ls []) from ?_) _ _ hP hS
  intro H locs hP hS
  refine lv_iload_n hx hb d_D_isPartnerOf_0 rfl (lv_at hl 2 rfl) ?_
  refine lv_iconst (v := (-1)) hx hb d_D_isPartnerOf_1 (by decide) ?_
  refine lv_icmp_eq (tgt := 18) hx hb d_D_isPartnerOf_2 rfl (fun hc => ?_) (fun hc => ?_)
  ·
    have hw := hw.1 hc
    refine lv_iconst (v := 1) hx hb d_D_isPartnerOf_18 (by decide) ?_
    refine lv_goto (tgt := 23) hx hb d_D_isPartnerOf_19 rfl ?_
    exact W.zret (v := 1) hx hb hr (by decide) (fun t ht hW => ⟨⟨1, (), rfl, hw, ⟨by rw [ht]; exact hP, hD⟩⟩, hS.F ht⟩) hS.2.2 d_D_isPartnerOf_23
  ·
    have hw := hw.2 hc
    refine lv_aload_n hx hb d_D_isPartnerOf_5 rfl (lv_at hl 0 rfl) ?_
    refine lv_iload_n hx hb d_D_isPartnerOf_6 rfl (lv_at hl 2 rfl) ?_
    refine kx_calli (ws' := fun u7 => (WS_D_isPartnerOf cI cL cZ h0 a_currencyOf a_sortOf a_closingRates a_averageRates a_sums a_historicAmounts a_holdings a_report v_companies v_accounts v_reserve)) (va_runV (As := [.int p1]) (rest := []) ⟨hx, hb, hml, hown, hts⟩ (c_D_isCompany l dC dI cI cL cZ h0 a_currencyOf a_sortOf a_closingRates a_averageRates a_sums a_historicAmounts a_holdings a_report v_companies v_accounts v_reserve H.size p1 hw) ⟨(callB_of 1 hts (kx_good iw_136) rfl rfl rfl (hts _ (kx_w iw_1)) (hts _ (kx_w iw_133)) (by decide +kernel) ⟨Nat.le_of_ble_eq_true rfl, Nat.le_of_ble_eq_true rfl⟩), (hts _ (kx_w iw_135)), (hts _ (kx_w sl_D_isCompany))⟩ (kx_preV hN hK hP hD [0] (by decide) rfl 0 rfl rfl) rfl rfl hl.1 rfl (lv_room (Nat.le_of_ble_eq_true rfl)) d_D_isPartnerOf_7 ⟨Nat.le_of_ble_eq_true rfl, Nat.le_of_ble_eq_true rfl⟩) hP hD hS hA [0] [] rfl rfl (by decide) (by decide) [0] (by decide) (fun _ => rfl) (fun r7 u7 H locs hw hP hD hS => ?_)
    have hP : va_P (dC, dI) classes (WS_D_isPartnerOf cI cL cZ h0 a_currencyOf a_sortOf a_closingRates a_averageRates a_sums a_historicAmounts a_holdings a_report v_companies v_accounts v_reserve) H := hP
    have hD : va_D A (WS_D_isPartnerOf cI cL cZ h0 a_currencyOf a_sortOf a_closingRates a_averageRates a_sums a_historicAmounts a_holdings a_report v_companies v_accounts v_reserve) := hD
    refine lv_if_eq (tgt := 22) hx hb d_D_isPartnerOf_10 rfl (fun hc => ?_) (fun hc => ?_)
    ·
      have hw := hw.1 hc
      refine lv_iconst (v := 0) hx hb d_D_isPartnerOf_22 (by decide) ?_
      exact W.zret (v := 0) hx hb hr (by decide) (fun t ht hW => ⟨⟨0, (), rfl, hw, ⟨by rw [ht]; exact hP, hD⟩⟩, hS.F ht⟩) hS.2.2 d_D_isPartnerOf_23
    ·
      have hw := hw.2 hc
      refine lv_iload_n hx hb d_D_isPartnerOf_13 rfl (lv_at hl 2 rfl) ?_
      refine lv_iload_n hx hb d_D_isPartnerOf_14 rfl (lv_at hl 1 rfl) ?_
      refine lv_icmp_eq (tgt := 22) hx hb d_D_isPartnerOf_15 rfl (fun hc => ?_) (fun hc => ?_)
      ·
        have hw := hw.1 hc
        refine lv_iconst (v := 0) hx hb d_D_isPartnerOf_22 (by decide) ?_
        exact W.zret (v := 0) hx hb hr (by decide) (fun t ht hW => ⟨⟨0, (), rfl, hw, ⟨by rw [ht]; exact hP, hD⟩⟩, hS.F ht⟩) hS.2.2 d_D_isPartnerOf_23
      ·
        have hw := hw.2 hc
        refine lv_iconst (v := 1) hx hb d_D_isPartnerOf_18 (by decide) ?_
        refine lv_goto (tgt := 23) hx hb d_D_isPartnerOf_19 rfl ?_
        exact W.zret (v := 1) hx hb hr (by decide) (fun t ht hW => ⟨⟨1, (), rfl, hw, ⟨by rw [ht]; exact hP, hD⟩⟩, hS.F ht⟩) hS.2.2 d_D_isPartnerOf_23
/-! ConsolidationDesk.isPlace(III)Z -/
abbrev y_D_isPlace : MethodName := ⟨"ConsolidationDesk", "isPlace", "(III)Z"⟩
theorem d_D_isPlace_0 : decode prog_1_method_23_code 0 = .ok (.aload_n 0, 1) := by decide +kernel
theorem d_D_isPlace_1 : decode prog_1_method_23_code 1 = .ok (.iload_n 1, 1) := by decide +kernel
theorem d_D_isPlace_2 : decode prog_1_method_23_code 2 = .ok (.invokevirtual 58, 3) := by decide +kernel
theorem d_D_isPlace_5 : decode prog_1_method_23_code 5 = .ok (.ifCond .eq 24, 3) := by decide +kernel
theorem d_D_isPlace_8 : decode prog_1_method_23_code 8 = .ok (.aload_n 0, 1) := by decide +kernel
theorem d_D_isPlace_9 : decode prog_1_method_23_code 9 = .ok (.iload_n 2, 1) := by decide +kernel
theorem d_D_isPlace_10 : decode prog_1_method_23_code 10 = .ok (.invokevirtual 83, 3) := by decide +kernel
theorem d_D_isPlace_13 : decode prog_1_method_23_code 13 = .ok (.ifCond .eq 16, 3) := by decide +kernel
theorem d_D_isPlace_16 : decode prog_1_method_23_code 16 = .ok (.aload_n 0, 1) := by decide +kernel
theorem d_D_isPlace_17 : decode prog_1_method_23_code 17 = .ok (.iload_n 1, 1) := by decide +kernel
theorem d_D_isPlace_18 : decode prog_1_method_23_code 18 = .ok (.iload_n 3, 1) := by decide +kernel
theorem d_D_isPlace_19 : decode prog_1_method_23_code 19 = .ok (.invokevirtual 156, 3) := by decide +kernel
theorem d_D_isPlace_22 : decode prog_1_method_23_code 22 = .ok (.ifCond .eq 7, 3) := by decide +kernel
theorem d_D_isPlace_25 : decode prog_1_method_23_code 25 = .ok (.iconst 1, 1) := by decide +kernel
theorem d_D_isPlace_26 : decode prog_1_method_23_code 26 = .ok (.goto 4, 3) := by decide +kernel
theorem d_D_isPlace_29 : decode prog_1_method_23_code 29 = .ok (.iconst 0, 1) := by decide +kernel
theorem d_D_isPlace_30 : decode prog_1_method_23_code 30 = .ok (.ireturn, 1) := by decide +kernel
abbrev WS_D_isPlace (cI cL cZ : ClassId)  (h0 a_currencyOf a_sortOf a_closingRates a_averageRates a_sums a_historicAmounts a_holdings a_report : Nat) (v_companies : Int32) (v_accounts : Int32) (v_reserve : Int32) : va_W := [(h0, .inr (2, [.int v_companies, .ref a_currencyOf, .int v_accounts, .ref a_sortOf, .int v_reserve, .ref a_closingRates, .ref a_averageRates, .ref a_sums, .ref a_historicAmounts, .ref a_holdings, .ref a_report]))]
def wp_D_isPlace  (p0 : Int32) (p1 : Int32) (p2 : Int32) (v_companies : Int32) (v_accounts : Int32) (post : Int32 → Unit → Prop) : Prop := (wp_D_isCompany p0 v_companies (fun (r2 : Int32) (u2 : Unit) => ((r2 = 0 → post 0 ()) ∧ (¬ r2 = 0 → (wp_D_isAccount p1 v_accounts (fun (r10 : Int32) (u10 : Unit) => ((r10 = 0 → post 0 ()) ∧ (¬ r10 = 0 → (wp_D_isPartnerOf p0 p2 v_companies (fun (r19 : Int32) (u19 : Unit) => ((r19 = 0 → post 0 ()) ∧ (¬ r19 = 0 → post 1 ()))))))))))))
abbrev ws_D_isPlace : List Cond := .code y_D_isPlace prog_1_method_23_code 4 (some .boolean) :: kxW
abbrev rm_D_isPlace : Room := { frames := 2, cells := 0, slots := 0, locals := 43 }
abbrev QC_D_isPlace (dC : Nat → ClassId) (dI : Nat → Nat → Nat) (cI cL cZ : ClassId) (A : Nat → Prop)  (h0 a_currencyOf a_sortOf a_closingRates a_averageRates a_sums a_historicAmounts a_holdings a_report : Nat) (v_companies : Int32) (v_accounts : Int32) (v_reserve : Int32) (post : Int32 → Unit → Prop) : Array Value → State → Outcome → State → Prop := va_Qi post (fun (u : Unit) t => kx_B (dC, dI) classes A (WS_D_isPlace cI cL cZ h0 a_currencyOf a_sortOf a_closingRates a_averageRates a_sums a_historicAmounts a_holdings a_report v_companies v_accounts v_reserve) t) A
set_option maxHeartbeats 4000000 in
set_option maxRecDepth 100000 in
theorem c_D_isPlace (l : Launch) (dC : Nat → ClassId) (dI : Nat → Nat → Nat) (cI cL cZ : ClassId)  (h0 a_currencyOf a_sortOf a_closingRates a_averageRates a_sums a_historicAmounts a_holdings a_report : Nat) (v_companies : Int32) (v_accounts : Int32) (v_reserve : Int32) (sz : Nat) (p0 : Int32) (p1 : Int32) (p2 : Int32) {post : Int32 → Unit → Prop} (hw : wp_D_isPlace p0 p1 p2 v_companies v_accounts post) : Met l y_D_isPlace ws_D_isPlace rm_D_isPlace (kx_Pc (dC, dI) classes (kx_T cI cL cZ) (WS_D_isPlace cI cL cZ h0 a_currencyOf a_sortOf a_closingRates a_averageRates a_sums a_historicAmounts a_holdings a_report v_companies v_accounts v_reserve) sz [.ref h0, .int p0, .int p1, .int p2]) (QC_D_isPlace dC dI cI cL cZ (va_A (WS_D_isPlace cI cL cZ h0 a_currencyOf a_sortOf a_closingRates a_averageRates a_sums a_historicAmounts a_holdings a_report v_companies v_accounts v_reserve) sz) h0 a_currencyOf a_sortOf a_closingRates a_averageRates a_sums a_historicAmounts a_holdings a_report v_companies v_accounts v_reserve post) 0 0 (va_A (WS_D_isPlace cI cL cZ h0 a_currencyOf a_sortOf a_closingRates a_averageRates a_sums a_historicAmounts a_holdings a_report v_companies v_accounts v_reserve) sz) := by
  refine Met.ofW (cc := prog_1_method_23_code) (maxL := 4) (ret := (some .boolean)) (by decide) rfl ?_
  intro p e s m args below meth c s₁ B hml hv
  obtain ⟨rfl, hsz, hP, hK, hD0, hN⟩ := hv
  have hx := B.exec
  have hb := B.bytes
  have hr := B.returns
  have hts := atoms_spec (ws := ws_D_isPlace) B.pre
  have hown : s.vm.findClass R_D = some m.cls := findClass_of_methodNamed B.named
  have hlocks := B.notSynchronized
  subst hsz
  have hD := hD0.self (sz := s.heap.size)
  generalize hAe : va_A (WS_D_isPlace cI cL cZ h0 a_currencyOf a_sortOf a_closingRates a_averageRates a_sums a_historicAmounts a_holdings a_report v_companies v_accounts v_reserve) s.heap.size = A at hD ⊢
  have hA : ∀ q : Nat, s.heap.size ≤ q → A q := fun q h => by rw [← hAe]; exact Or.inr h
  have hS : va_S A s.heap s.heap [] := va_S.rf
  have hP : va_P (dC, dI) classes (WS_D_isPlace cI cL cZ h0 a_currencyOf a_sortOf a_closingRates a_averageRates a_sums a_historicAmounts a_holdings a_report v_companies v_accounts v_reserve) s.heap := hP
  have hl := lv_entry ([.ref h0, .int p0, .int p1, .int p2]) (n := 4) (Nat.le_of_ble_eq_true rfl)
  rw [lg_entry_eq]
  generalize (lg_sl ([.ref h0, .int p0, .int p1, .int p2]) ++ List.replicate (4 - (lg_sl ([.ref h0, .int p0, .int p1, .int p2])).length) Slot.unset).toArray = ls at hl ⊢
  have hl : lv_has ls 4 [(0, .ref h0), (1, .int p0), (2, .int p1), (3, .int p2)] := hl
  unfold wp_D_isPlace at hw
  refine (show ∀ (H : Heap) (locs : List Loc), va_P (dC, dI) classes (WS_D_isPlace cI cL cZ h0 a_currencyOf a_sortOf a_closingRates a_averageRates a_sums a_historicAmounts a_holdings a_report v_companies v_accounts v_reserve) H → va_S A s.heap H locs → W p l e (headSpec ws_D_isPlace rm_D_isPlace).room s m ([.ref h0, .int p0, .int p1, .int p2] : List Value).toArray below meth c H locs 0 0 (MQ below (QC_D_isPlace dC dI cI cL cZ A h0 a_currencyOf a_sortOf a_closingRates a_averageRates a_sums a_historicAmounts a_holdings a_report v_companies v_accounts v_reserve post) ([.ref h0, .int p0, .int p1, .int p2] : List Value).toArray s 0 0 A) (F0 m 0 ls []) from ?_) _ _ hP hS
  intro H locs hP hS
  refine lv_aload_n hx hb d_D_isPlace_0 rfl (lv_at hl 0 rfl) ?_
  refine lv_iload_n hx hb d_D_isPlace_1 rfl (lv_at hl 1 rfl) ?_
  refine kx_calli (ws' := fun u2 => (WS_D_isPlace cI cL cZ h0 a_currencyOf a_sortOf a_closingRates a_averageRates a_sums a_historicAmounts a_holdings a_report v_companies v_accounts v_reserve)) (va_runV (As := [.int p0]) (rest := []) ⟨hx, hb, hml, hown, hts⟩ (c_D_isCompany l dC dI cI cL cZ h0 a_currencyOf a_sortOf a_closingRates a_averageRates a_sums a_historicAmounts a_holdings a_report v_companies v_accounts v_reserve H.size p0 hw) ⟨(callB_of 1 hts (kx_good iw_136) rfl rfl rfl (hts _ (kx_w iw_1)) (hts _ (kx_w iw_133)) (by decide +kernel) ⟨Nat.le_of_ble_eq_true rfl, Nat.le_of_ble_eq_true rfl⟩), (hts _ (kx_w iw_135)), (hts _ (kx_w sl_D_isCompany))⟩ (kx_preV hN hK hP hD [0] (by decide) rfl 0 rfl rfl) rfl rfl hl.1 rfl (lv_room (Nat.le_of_ble_eq_true rfl)) d_D_isPlace_2 ⟨Nat.le_of_ble_eq_true rfl, Nat.le_of_ble_eq_true rfl⟩) hP hD hS hA [0] [] rfl rfl (by decide) (by decide) [0] (by decide) (fun _ => rfl) (fun r2 u2 H locs hw hP hD hS => ?_)
  have hP : va_P (dC, dI) classes (WS_D_isPlace cI cL cZ h0 a_currencyOf a_sortOf a_closingRates a_averageRates a_sums a_historicAmounts a_holdings a_report v_companies v_accounts v_reserve) H := hP
  have hD : va_D A (WS_D_isPlace cI cL cZ h0 a_currencyOf a_sortOf a_closingRates a_averageRates a_sums a_historicAmounts a_holdings a_report v_companies v_accounts v_reserve) := hD
  refine lv_if_eq (tgt := 29) hx hb d_D_isPlace_5 rfl (fun hc => ?_) (fun hc => ?_)
  ·
    have hw := hw.1 hc
    refine lv_iconst (v := 0) hx hb d_D_isPlace_29 (by decide) ?_
    exact W.zret (v := 0) hx hb hr (by decide) (fun t ht hW => ⟨⟨0, (), rfl, hw, ⟨by rw [ht]; exact hP, hD⟩⟩, hS.F ht⟩) hS.2.2 d_D_isPlace_30
  ·
    have hw := hw.2 hc
    refine lv_aload_n hx hb d_D_isPlace_8 rfl (lv_at hl 0 rfl) ?_
    refine lv_iload_n hx hb d_D_isPlace_9 rfl (lv_at hl 2 rfl) ?_
    refine kx_calli (ws' := fun u10 => (WS_D_isPlace cI cL cZ h0 a_currencyOf a_sortOf a_closingRates a_averageRates a_sums a_historicAmounts a_holdings a_report v_companies v_accounts v_reserve)) (va_runV (As := [.int p1]) (rest := []) ⟨hx, hb, hml, hown, hts⟩ (c_D_isAccount l dC dI cI cL cZ h0 a_currencyOf a_sortOf a_closingRates a_averageRates a_sums a_historicAmounts a_holdings a_report v_companies v_accounts v_reserve H.size p1 hw) ⟨(callB_of 1 hts (kx_good iw_201) rfl rfl rfl (hts _ (kx_w iw_1)) (hts _ (kx_w iw_198)) (by decide +kernel) ⟨Nat.le_of_ble_eq_true rfl, Nat.le_of_ble_eq_true rfl⟩), (hts _ (kx_w iw_200)), (hts _ (kx_w sl_D_isAccount))⟩ (kx_preV hN hK hP hD [0] (by decide) rfl 0 rfl rfl) rfl rfl hl.1 rfl (lv_room (Nat.le_of_ble_eq_true rfl)) d_D_isPlace_10 ⟨Nat.le_of_ble_eq_true rfl, Nat.le_of_ble_eq_true rfl⟩) hP hD hS hA [0] [] rfl rfl (by decide) (by decide) [0] (by decide) (fun _ => rfl) (fun r10 u10 H locs hw hP hD hS => ?_)
    have hP : va_P (dC, dI) classes (WS_D_isPlace cI cL cZ h0 a_currencyOf a_sortOf a_closingRates a_averageRates a_sums a_historicAmounts a_holdings a_report v_companies v_accounts v_reserve) H := hP
    have hD : va_D A (WS_D_isPlace cI cL cZ h0 a_currencyOf a_sortOf a_closingRates a_averageRates a_sums a_historicAmounts a_holdings a_report v_companies v_accounts v_reserve) := hD
    refine lv_if_eq (tgt := 29) hx hb d_D_isPlace_13 rfl (fun hc => ?_) (fun hc => ?_)
    ·
      have hw := hw.1 hc
      refine lv_iconst (v := 0) hx hb d_D_isPlace_29 (by decide) ?_
      exact W.zret (v := 0) hx hb hr (by decide) (fun t ht hW => ⟨⟨0, (), rfl, hw, ⟨by rw [ht]; exact hP, hD⟩⟩, hS.F ht⟩) hS.2.2 d_D_isPlace_30
    ·
      have hw := hw.2 hc
      refine lv_aload_n hx hb d_D_isPlace_16 rfl (lv_at hl 0 rfl) ?_
      refine lv_iload_n hx hb d_D_isPlace_17 rfl (lv_at hl 1 rfl) ?_
      refine lv_iload_n hx hb d_D_isPlace_18 rfl (lv_at hl 3 rfl) ?_
      refine kx_calli (ws' := fun u19 => (WS_D_isPlace cI cL cZ h0 a_currencyOf a_sortOf a_closingRates a_averageRates a_sums a_historicAmounts a_holdings a_report v_companies v_accounts v_reserve)) (va_runV (As := [.int p0, .int p2]) (rest := []) ⟨hx, hb, hml, hown, hts⟩ (c_D_isPartnerOf l dC dI cI cL cZ h0 a_currencyOf a_sortOf a_closingRates a_averageRates a_sums a_historicAmounts a_holdings a_report v_companies v_accounts v_reserve H.size p0 p2 hw) ⟨(callB_of 2 hts (kx_good iw_205) rfl rfl rfl (hts _ (kx_w iw_1)) (hts _ (kx_w iw_202)) (by decide +kernel) ⟨Nat.le_of_ble_eq_true rfl, Nat.le_of_ble_eq_true rfl⟩), (hts _ (kx_w iw_204)), (hts _ (kx_w sl_D_isPartnerOf))⟩ (kx_preV hN hK hP hD [0] (by decide) rfl 0 rfl rfl) rfl rfl hl.1 rfl (lv_room (Nat.le_of_ble_eq_true rfl)) d_D_isPlace_19 ⟨Nat.le_of_ble_eq_true rfl, Nat.le_of_ble_eq_true rfl⟩) hP hD hS hA [0] [] rfl rfl (by decide) (by decide) [0] (by decide) (fun _ => rfl) (fun r19 u19 H locs hw hP hD hS => ?_)
      have hP : va_P (dC, dI) classes (WS_D_isPlace cI cL cZ h0 a_currencyOf a_sortOf a_closingRates a_averageRates a_sums a_historicAmounts a_holdings a_report v_companies v_accounts v_reserve) H := hP
      have hD : va_D A (WS_D_isPlace cI cL cZ h0 a_currencyOf a_sortOf a_closingRates a_averageRates a_sums a_historicAmounts a_holdings a_report v_companies v_accounts v_reserve) := hD
      refine lv_if_eq (tgt := 29) hx hb d_D_isPlace_22 rfl (fun hc => ?_) (fun hc => ?_)
      ·
        have hw := hw.1 hc
        refine lv_iconst (v := 0) hx hb d_D_isPlace_29 (by decide) ?_
        exact W.zret (v := 0) hx hb hr (by decide) (fun t ht hW => ⟨⟨0, (), rfl, hw, ⟨by rw [ht]; exact hP, hD⟩⟩, hS.F ht⟩) hS.2.2 d_D_isPlace_30
      ·
        have hw := hw.2 hc
        refine lv_iconst (v := 1) hx hb d_D_isPlace_25 (by decide) ?_
        refine lv_goto (tgt := 30) hx hb d_D_isPlace_26 rfl ?_
        exact W.zret (v := 1) hx hb hr (by decide) (fun t ht hW => ⟨⟨1, (), rfl, hw, ⟨by rw [ht]; exact hP, hD⟩⟩, hS.F ht⟩) hS.2.2 d_D_isPlace_30
/-! ConsolidationDesk.takes(II)Z -/
abbrev y_D_takes : MethodName := ⟨"ConsolidationDesk", "takes", "(II)Z"⟩
theorem d_D_takes_0 : decode prog_1_method_24_code 0 = .ok (.aload_n 0, 1) := by decide +kernel
theorem d_D_takes_1 : decode prog_1_method_24_code 1 = .ok (.getfield 20, 3) := by decide +kernel
theorem d_D_takes_4 : decode prog_1_method_24_code 4 = .ok (.iload_n 1, 1) := by decide +kernel
theorem d_D_takes_5 : decode prog_1_method_24_code 5 = .ok (.iaload, 1) := by decide +kernel
theorem d_D_takes_6 : decode prog_1_method_24_code 6 = .ok (.istore_n 3, 1) := by decide +kernel
theorem d_D_takes_7 : decode prog_1_method_24_code 7 = .ok (.iload_n 3, 1) := by decide +kernel
theorem d_D_takes_8 : decode prog_1_method_24_code 8 = .ok (.iconst 4, 1) := by decide +kernel
theorem d_D_takes_9 : decode prog_1_method_24_code 9 = .ok (.if_icmp .eq 17, 3) := by decide +kernel
theorem d_D_takes_12 : decode prog_1_method_24_code 12 = .ok (.iload_n 3, 1) := by decide +kernel
theorem d_D_takes_13 : decode prog_1_method_24_code 13 = .ok (.iconst 3, 1) := by decide +kernel
theorem d_D_takes_14 : decode prog_1_method_24_code 14 = .ok (.if_icmp .ne 8, 3) := by decide +kernel
theorem d_D_takes_17 : decode prog_1_method_24_code 17 = .ok (.iload_n 2, 1) := by decide +kernel
theorem d_D_takes_18 : decode prog_1_method_24_code 18 = .ok (.iconst (-1), 1) := by decide +kernel
theorem d_D_takes_19 : decode prog_1_method_24_code 19 = .ok (.if_icmp .ne 7, 3) := by decide +kernel
theorem d_D_takes_22 : decode prog_1_method_24_code 22 = .ok (.iconst 1, 1) := by decide +kernel
theorem d_D_takes_23 : decode prog_1_method_24_code 23 = .ok (.goto 4, 3) := by decide +kernel
theorem d_D_takes_26 : decode prog_1_method_24_code 26 = .ok (.iconst 0, 1) := by decide +kernel
theorem d_D_takes_27 : decode prog_1_method_24_code 27 = .ok (.ireturn, 1) := by decide +kernel
abbrev WS_D_takes (cI cL cZ : ClassId)  (h0 a_currencyOf a_sortOf a_closingRates a_averageRates a_sums a_historicAmounts a_holdings a_report : Nat) (v_companies : Int32) (v_accounts : Int32) (v_reserve : Int32) (v_sortOf : (Nat → Int32)) : va_W := [(h0, .inr (2, [.int v_companies, .ref a_currencyOf, .int v_accounts, .ref a_sortOf, .int v_reserve, .ref a_closingRates, .ref a_averageRates, .ref a_sums, .ref a_historicAmounts, .ref a_holdings, .ref a_report])), (a_sortOf, .inl (cI, 12, .inl v_sortOf))]
def wp_D_takes  (p0 : Int32) (p1 : Int32) (v_sortOf : (Nat → Int32)) (post : Int32 → Unit → Prop) : Prop := (vp_in p0 12 ∧ (∀ x6 : Int32, x6 = (v_sortOf p0.toNatClampNeg) → ((x6 = 4 → post 0 ()) ∧ (¬ x6 = 4 → ((¬ x6 = 3 → post 1 ()) ∧ (x6 = 3 → ((¬ p1 = (-1) → post 0 ()) ∧ (p1 = (-1) → post 1 ()))))))))
abbrev ws_D_takes : List Cond := .code y_D_takes prog_1_method_24_code 4 (some .boolean) :: kxW
abbrev rm_D_takes : Room := { frames := 0, cells := 0, slots := 0, locals := 0 }
abbrev QC_D_takes (dC : Nat → ClassId) (dI : Nat → Nat → Nat) (cI cL cZ : ClassId) (A : Nat → Prop)  (h0 a_currencyOf a_sortOf a_closingRates a_averageRates a_sums a_historicAmounts a_holdings a_report : Nat) (v_companies : Int32) (v_accounts : Int32) (v_reserve : Int32) (v_sortOf : (Nat → Int32)) (post : Int32 → Unit → Prop) : Array Value → State → Outcome → State → Prop := va_Qi post (fun (u : Unit) t => kx_B (dC, dI) classes A (WS_D_takes cI cL cZ h0 a_currencyOf a_sortOf a_closingRates a_averageRates a_sums a_historicAmounts a_holdings a_report v_companies v_accounts v_reserve v_sortOf) t) A
set_option maxHeartbeats 4000000 in
set_option maxRecDepth 100000 in
theorem c_D_takes (l : Launch) (dC : Nat → ClassId) (dI : Nat → Nat → Nat) (cI cL cZ : ClassId)  (h0 a_currencyOf a_sortOf a_closingRates a_averageRates a_sums a_historicAmounts a_holdings a_report : Nat) (v_companies : Int32) (v_accounts : Int32) (v_reserve : Int32) (v_sortOf : (Nat → Int32)) (sz : Nat) (p0 : Int32) (p1 : Int32) {post : Int32 → Unit → Prop} (hw : wp_D_takes p0 p1 v_sortOf post) : Met l y_D_takes ws_D_takes rm_D_takes (kx_Pc (dC, dI) classes (kx_T cI cL cZ) (WS_D_takes cI cL cZ h0 a_currencyOf a_sortOf a_closingRates a_averageRates a_sums a_historicAmounts a_holdings a_report v_companies v_accounts v_reserve v_sortOf) sz [.ref h0, .int p0, .int p1]) (QC_D_takes dC dI cI cL cZ (va_A (WS_D_takes cI cL cZ h0 a_currencyOf a_sortOf a_closingRates a_averageRates a_sums a_historicAmounts a_holdings a_report v_companies v_accounts v_reserve v_sortOf) sz) h0 a_currencyOf a_sortOf a_closingRates a_averageRates a_sums a_historicAmounts a_holdings a_report v_companies v_accounts v_reserve v_sortOf post) 0 0 (va_A (WS_D_takes cI cL cZ h0 a_currencyOf a_sortOf a_closingRates a_averageRates a_sums a_historicAmounts a_holdings a_report v_companies v_accounts v_reserve v_sortOf) sz) := by
  refine Met.ofW (cc := prog_1_method_24_code) (maxL := 4) (ret := (some .boolean)) (by decide) rfl ?_
  intro p e s m args below meth c s₁ B hml hv
  obtain ⟨rfl, hsz, hP, hK, hD0, hN⟩ := hv
  have hx := B.exec
  have hb := B.bytes
  have hr := B.returns
  have hts := atoms_spec (ws := ws_D_takes) B.pre
  have hown : s.vm.findClass R_D = some m.cls := findClass_of_methodNamed B.named
  have hlocks := B.notSynchronized
  subst hsz
  have hD := hD0.self (sz := s.heap.size)
  generalize hAe : va_A (WS_D_takes cI cL cZ h0 a_currencyOf a_sortOf a_closingRates a_averageRates a_sums a_historicAmounts a_holdings a_report v_companies v_accounts v_reserve v_sortOf) s.heap.size = A at hD ⊢
  have hA : ∀ q : Nat, s.heap.size ≤ q → A q := fun q h => by rw [← hAe]; exact Or.inr h
  have hS : va_S A s.heap s.heap [] := va_S.rf
  have hP : va_P (dC, dI) classes (WS_D_takes cI cL cZ h0 a_currencyOf a_sortOf a_closingRates a_averageRates a_sums a_historicAmounts a_holdings a_report v_companies v_accounts v_reserve v_sortOf) s.heap := hP
  have hl := lv_entry ([.ref h0, .int p0, .int p1]) (n := 4) (Nat.le_of_ble_eq_true rfl)
  rw [lg_entry_eq]
  generalize (lg_sl ([.ref h0, .int p0, .int p1]) ++ List.replicate (4 - (lg_sl ([.ref h0, .int p0, .int p1])).length) Slot.unset).toArray = ls at hl ⊢
  have hl : lv_has ls 4 [(0, .ref h0), (1, .int p0), (2, .int p1)] := hl
  unfold wp_D_takes at hw
  refine (show ∀ (H : Heap) (locs : List Loc), va_P (dC, dI) classes (WS_D_takes cI cL cZ h0 a_currencyOf a_sortOf a_closingRates a_averageRates a_sums a_historicAmounts a_holdings a_report v_companies v_accounts v_reserve v_sortOf) H → va_S A s.heap H locs → W p l e (headSpec ws_D_takes rm_D_takes).room s m ([.ref h0, .int p0, .int p1] : List Value).toArray below meth c H locs 0 0 (MQ below (QC_D_takes dC dI cI cL cZ A h0 a_currencyOf a_sortOf a_closingRates a_averageRates a_sums a_historicAmounts a_holdings a_report v_companies v_accounts v_reserve v_sortOf post) ([.ref h0, .int p0, .int p1] : List Value).toArray s 0 0 A) (F0 m 0 ls []) from ?_) _ _ hP hS
  intro H locs hP hS
  refine lv_aload_n hx hb d_D_takes_0 rfl (lv_at hl 0 rfl) ?_
  refine va_get (D := (dC, dI)) (ci := 2) (v := .ref a_sortOf) (C := R_D) (T := F_D) (N := 11) hx hb hts (kx_in in_D) hown hK hP 0 rfl rfl 3 (by decide) (hts _ (kx_w iw_87)) (fun _ h9 => h9) rfl d_D_takes_1 ?_
  refine lv_iload_n hx hb d_D_takes_4 rfl (lv_at hl 1 rfl) ?_
  obtain ⟨hi, hw⟩ := hw
  refine va_iald hx hb hK hP 1 0 rfl rfl hi d_D_takes_5 ?_
  refine lv_topi (fun x6 e6 => ?_)
  have hw := hw x6 e6
  refine lv_istore_n (lv' := [(3, .int x6), (0, .ref h0), (1, .int p0), (2, .int p1)]) hx hb d_D_takes_6 rfl hl (by decide) rfl (fun ls hl => ?_)
  refine lv_iload_n hx hb d_D_takes_7 rfl (lv_at hl 0 rfl) ?_
  refine lv_iconst (v := 4) hx hb d_D_takes_8 (by decide) ?_
  refine lv_icmp_eq (tgt := 26) hx hb d_D_takes_9 rfl (fun hc => ?_) (fun hc => ?_)
  ·
    have hw := hw.1 hc
    refine lv_iconst (v := 0) hx hb d_D_takes_26 (by decide) ?_
    exact W.zret (v := 0) hx hb hr (by decide) (fun t ht hW => ⟨⟨0, (), rfl, hw, ⟨by rw [ht]; exact hP, hD⟩⟩, hS.F ht⟩) hS.2.2 d_D_takes_27
  ·
    have hw := hw.2 hc
    refine lv_iload_n hx hb d_D_takes_12 rfl (lv_at hl 0 rfl) ?_
    refine lv_iconst (v := 3) hx hb d_D_takes_13 (by decide) ?_
    refine lv_icmp_ne (tgt := 22) hx hb d_D_takes_14 rfl (fun hc => ?_) (fun hc => ?_)
    ·
      have hw := hw.1 hc
      refine lv_iconst (v := 1) hx hb d_D_takes_22 (by decide) ?_
      refine lv_goto (tgt := 27) hx hb d_D_takes_23 rfl ?_
      exact W.zret (v := 1) hx hb hr (by decide) (fun t ht hW => ⟨⟨1, (), rfl, hw, ⟨by rw [ht]; exact hP, hD⟩⟩, hS.F ht⟩) hS.2.2 d_D_takes_27
    ·
      have hw := hw.2 hc
      refine lv_iload_n hx hb d_D_takes_17 rfl (lv_at hl 3 rfl) ?_
      refine lv_iconst (v := (-1)) hx hb d_D_takes_18 (by decide) ?_
      refine lv_icmp_ne (tgt := 26) hx hb d_D_takes_19 rfl (fun hc => ?_) (fun hc => ?_)
      ·
        have hw := hw.1 hc
        refine lv_iconst (v := 0) hx hb d_D_takes_26 (by decide) ?_
        exact W.zret (v := 0) hx hb hr (by decide) (fun t ht hW => ⟨⟨0, (), rfl, hw, ⟨by rw [ht]; exact hP, hD⟩⟩, hS.F ht⟩) hS.2.2 d_D_takes_27
      ·
        have hw := hw.2 hc
        refine lv_iconst (v := 1) hx hb d_D_takes_22 (by decide) ?_
        refine lv_goto (tgt := 27) hx hb d_D_takes_23 rfl ?_
        exact W.zret (v := 1) hx hb hr (by decide) (fun t ht hW => ⟨⟨1, (), rfl, hw, ⟨by rw [ht]; exact hP, hD⟩⟩, hS.F ht⟩) hS.2.2 d_D_takes_27
/-! ConsolidationDesk.place(III)I -/
abbrev y_D_place : MethodName := ⟨"ConsolidationDesk", "place", "(III)I"⟩
theorem d_D_place_0 : decode prog_1_method_25_code 0 = .ok (.iload_n 0, 1) := by decide +kernel
theorem d_D_place_1 : decode prog_1_method_25_code 1 = .ok (.bipush 13, 2) := by decide +kernel
theorem d_D_place_3 : decode prog_1_method_25_code 3 = .ok (.imul, 1) := by decide +kernel
theorem d_D_place_4 : decode prog_1_method_25_code 4 = .ok (.iload_n 1, 1) := by decide +kernel
theorem d_D_place_5 : decode prog_1_method_25_code 5 = .ok (.iadd, 1) := by decide +kernel
theorem d_D_place_6 : decode prog_1_method_25_code 6 = .ok (.iconst 1, 1) := by decide +kernel
theorem d_D_place_7 : decode prog_1_method_25_code 7 = .ok (.iadd, 1) := by decide +kernel
theorem d_D_place_8 : decode prog_1_method_25_code 8 = .ok (.bipush 12, 2) := by decide +kernel
theorem d_D_place_10 : decode prog_1_method_25_code 10 = .ok (.imul, 1) := by decide +kernel
theorem d_D_place_11 : decode prog_1_method_25_code 11 = .ok (.iload_n 2, 1) := by decide +kernel
theorem d_D_place_12 : decode prog_1_method_25_code 12 = .ok (.iadd, 1) := by decide +kernel
theorem d_D_place_13 : decode prog_1_method_25_code 13 = .ok (.ireturn, 1) := by decide +kernel
abbrev WS_D_place (cI cL cZ : ClassId)    : va_W := []
def wp_D_place  (p0 : Int32) (p1 : Int32) (p2 : Int32)  (post : Int32 → Unit → Prop) : Prop := post (((((p0 * 13) + p1) + 1) * 12) + p2) ()
abbrev ws_D_place : List Cond := .code y_D_place prog_1_method_25_code 3 (some .int) :: kxW
abbrev rm_D_place : Room := { frames := 0, cells := 0, slots := 0, locals := 0 }
abbrev QC_D_place (dC : Nat → ClassId) (dI : Nat → Nat → Nat) (cI cL cZ : ClassId) (A : Nat → Prop)    (post : Int32 → Unit → Prop) : Array Value → State → Outcome → State → Prop := va_Qi post (fun (u : Unit) t => kx_B (dC, dI) classes A (WS_D_place cI cL cZ ) t) A
set_option maxHeartbeats 4000000 in
set_option maxRecDepth 100000 in
theorem c_D_place (l : Launch) (dC : Nat → ClassId) (dI : Nat → Nat → Nat) (cI cL cZ : ClassId)    (sz : Nat) (p0 : Int32) (p1 : Int32) (p2 : Int32) {post : Int32 → Unit → Prop} (hw : wp_D_place p0 p1 p2 post) : Met l y_D_place ws_D_place rm_D_place (kx_Pc (dC, dI) classes (kx_T cI cL cZ) (WS_D_place cI cL cZ ) sz [.int p0, .int p1, .int p2]) (QC_D_place dC dI cI cL cZ (va_A (WS_D_place cI cL cZ ) sz)  post) 0 0 (va_A (WS_D_place cI cL cZ ) sz) := by
  refine Met.ofW (cc := prog_1_method_25_code) (maxL := 3) (ret := (some .int)) (by decide) rfl ?_
  intro p e s m args below meth c s₁ B hml hv
  obtain ⟨rfl, hsz, hP, hK, hD0, hN⟩ := hv
  have hx := B.exec
  have hb := B.bytes
  have hr := B.returns
  have hts := atoms_spec (ws := ws_D_place) B.pre
  have hown : s.vm.findClass R_D = some m.cls := findClass_of_methodNamed B.named
  have hlocks := B.notSynchronized
  subst hsz
  have hD := hD0.self (sz := s.heap.size)
  generalize hAe : va_A (WS_D_place cI cL cZ ) s.heap.size = A at hD ⊢
  have hA : ∀ q : Nat, s.heap.size ≤ q → A q := fun q h => by rw [← hAe]; exact Or.inr h
  have hS : va_S A s.heap s.heap [] := va_S.rf
  have hP : va_P (dC, dI) classes (WS_D_place cI cL cZ ) s.heap := hP
  have hl := lv_entry ([.int p0, .int p1, .int p2]) (n := 3) (Nat.le_of_ble_eq_true rfl)
  rw [lg_entry_eq]
  generalize (lg_sl ([.int p0, .int p1, .int p2]) ++ List.replicate (3 - (lg_sl ([.int p0, .int p1, .int p2])).length) Slot.unset).toArray = ls at hl ⊢
  have hl : lv_has ls 3 [(0, .int p0), (1, .int p1), (2, .int p2)] := hl
  unfold wp_D_place at hw
  refine (show ∀ (H : Heap) (locs : List Loc), va_P (dC, dI) classes (WS_D_place cI cL cZ ) H → va_S A s.heap H locs → W p l e (headSpec ws_D_place rm_D_place).room s m ([.int p0, .int p1, .int p2] : List Value).toArray below meth c H locs 0 0 (MQ below (QC_D_place dC dI cI cL cZ A post) ([.int p0, .int p1, .int p2] : List Value).toArray s 0 0 A) (F0 m 0 ls []) from ?_) _ _ hP hS
  intro H locs hP hS
  refine lv_iload_n hx hb d_D_place_0 rfl (lv_at hl 0 rfl) ?_
  refine lv_bipush (v := 13) hx hb d_D_place_1 (by decide) ?_
  refine lv_imul hx hb d_D_place_3 ?_
  refine lv_iload_n hx hb d_D_place_4 rfl (lv_at hl 1 rfl) ?_
  refine lv_iadd hx hb d_D_place_5 ?_
  refine lv_iconst (v := 1) hx hb d_D_place_6 (by decide) ?_
  refine lv_iadd hx hb d_D_place_7 ?_
  refine lv_bipush (v := 12) hx hb d_D_place_8 (by decide) ?_
  refine lv_imul hx hb d_D_place_10 ?_
  refine lv_iload_n hx hb d_D_place_11 rfl (lv_at hl 2 rfl) ?_
  refine lv_iadd hx hb d_D_place_12 ?_
  exact W.iret (v := (((((p0 * 13) + p1) + 1) * 12) + p2)) hx hb hr (fun t ht hW => ⟨⟨(((((p0 * 13) + p1) + 1) * 12) + p2), (), rfl, hw, ⟨by rw [ht]; exact hP, hD⟩⟩, hS.F ht⟩) hS.2.2 d_D_place_13
/-! ConsolidationDesk.company(I)I -/
abbrev y_D_company : MethodName := ⟨"ConsolidationDesk", "company", "(I)I"⟩
theorem d_D_company_0 : decode prog_1_method_2_code 0 = .ok (.iload_n 1, 1) := by decide +kernel
theorem d_D_company_1 : decode prog_1_method_2_code 1 = .ok (.invokestatic 54, 3) := by decide +kernel
theorem d_D_company_4 : decode prog_1_method_2_code 4 = .ok (.ifCond .eq 12, 3) := by decide +kernel
theorem d_D_company_7 : decode prog_1_method_2_code 7 = .ok (.aload_n 0, 1) := by decide +kernel
theorem d_D_company_8 : decode prog_1_method_2_code 8 = .ok (.getfield 9, 3) := by decide +kernel
theorem d_D_company_11 : decode prog_1_method_2_code 11 = .ok (.bipush 12, 2) := by decide +kernel
theorem d_D_company_13 : decode prog_1_method_2_code 13 = .ok (.if_icmp .ne 5, 3) := by decide +kernel
theorem d_D_company_16 : decode prog_1_method_2_code 16 = .ok (.iconst (-1), 1) := by decide +kernel
theorem d_D_company_17 : decode prog_1_method_2_code 17 = .ok (.ireturn, 1) := by decide +kernel
theorem d_D_company_18 : decode prog_1_method_2_code 18 = .ok (.aload_n 0, 1) := by decide +kernel
theorem d_D_company_19 : decode prog_1_method_2_code 19 = .ok (.getfield 13, 3) := by decide +kernel
theorem d_D_company_22 : decode prog_1_method_2_code 22 = .ok (.aload_n 0, 1) := by decide +kernel
theorem d_D_company_23 : decode prog_1_method_2_code 23 = .ok (.getfield 9, 3) := by decide +kernel
theorem d_D_company_26 : decode prog_1_method_2_code 26 = .ok (.iload_n 1, 1) := by decide +kernel
theorem d_D_company_27 : decode prog_1_method_2_code 27 = .ok (.iastore, 1) := by decide +kernel
theorem d_D_company_28 : decode prog_1_method_2_code 28 = .ok (.aload_n 0, 1) := by decide +kernel
theorem d_D_company_29 : decode prog_1_method_2_code 29 = .ok (.dup, 1) := by decide +kernel
theorem d_D_company_30 : decode prog_1_method_2_code 30 = .ok (.getfield 9, 3) := by decide +kernel
theorem d_D_company_33 : decode prog_1_method_2_code 33 = .ok (.iconst 1, 1) := by decide +kernel
theorem d_D_company_34 : decode prog_1_method_2_code 34 = .ok (.iadd, 1) := by decide +kernel
theorem d_D_company_35 : decode prog_1_method_2_code 35 = .ok (.putfield 9, 3) := by decide +kernel
theorem d_D_company_38 : decode prog_1_method_2_code 38 = .ok (.aload_n 0, 1) := by decide +kernel
theorem d_D_company_39 : decode prog_1_method_2_code 39 = .ok (.getfield 9, 3) := by decide +kernel
theorem d_D_company_42 : decode prog_1_method_2_code 42 = .ok (.iconst 1, 1) := by decide +kernel
theorem d_D_company_43 : decode prog_1_method_2_code 43 = .ok (.isub, 1) := by decide +kernel
theorem d_D_company_44 : decode prog_1_method_2_code 44 = .ok (.ireturn, 1) := by decide +kernel
abbrev WS_D_company (cI cL cZ : ClassId)  (h0 a_currencyOf a_sortOf a_closingRates a_averageRates a_sums a_historicAmounts a_holdings a_report : Nat) (v_companies : Int32) (v_accounts : Int32) (v_reserve : Int32) (v_currencyOf : (Nat → Int32)) : va_W := [(h0, .inr (2, [.int v_companies, .ref a_currencyOf, .int v_accounts, .ref a_sortOf, .int v_reserve, .ref a_closingRates, .ref a_averageRates, .ref a_sums, .ref a_historicAmounts, .ref a_holdings, .ref a_report])), (a_currencyOf, .inl (cI, 12, .inl v_currencyOf))]
def wp_D_company  (p0 : Int32) (v_companies : Int32) (v_currencyOf : (Nat → Int32)) (post : Int32 → (Int32 × (Nat → Int32)) → Prop) : Prop := (wp_D_isCurrency p0 (fun (r1 : Int32) (u1 : Unit) => ((r1 = 0 → post (-1) (v_companies, v_currencyOf)) ∧ (¬ r1 = 0 → ((¬ v_companies = 12 → (vp_in v_companies 12 ∧ post ((v_companies + 1) - 1) ((v_companies + 1), (upd v_currencyOf v_companies.toNatClampNeg p0)))) ∧ (v_companies = 12 → post (-1) (v_companies, v_currencyOf)))))))
abbrev ws_D_company : List Cond := .code y_D_company prog_1_method_2_code 2 (some .int) :: kxW
abbrev rm_D_company : Room := { frames := 1, cells := 0, slots := 0, locals := 20 }
abbrev QC_D_company (dC : Nat → ClassId) (dI : Nat → Nat → Nat) (cI cL cZ : ClassId) (A : Nat → Prop)  (h0 a_currencyOf a_sortOf a_closingRates a_averageRates a_sums a_historicAmounts a_holdings a_report : Nat) (v_companies : Int32) (v_accounts : Int32) (v_reserve : Int32) (v_currencyOf : (Nat → Int32)) (post : Int32 → (Int32 × (Nat → Int32)) → Prop) : Array Value → State → Outcome → State → Prop := va_Qi post (fun (u : Int32 × (Nat → Int32)) t => kx_B (dC, dI) classes A (WS_D_company cI cL cZ h0 a_currencyOf a_sortOf a_closingRates a_averageRates a_sums a_historicAmounts a_holdings a_report u.1 v_accounts v_reserve u.2) t) A
set_option maxHeartbeats 4000000 in
set_option maxRecDepth 100000 in
theorem c_D_company (l : Launch) (dC : Nat → ClassId) (dI : Nat → Nat → Nat) (cI cL cZ : ClassId)  (h0 a_currencyOf a_sortOf a_closingRates a_averageRates a_sums a_historicAmounts a_holdings a_report : Nat) (v_companies : Int32) (v_accounts : Int32) (v_reserve : Int32) (v_currencyOf : (Nat → Int32)) (sz : Nat) (p0 : Int32) {post : Int32 → (Int32 × (Nat → Int32)) → Prop} (hw : wp_D_company p0 v_companies v_currencyOf post) : Met l y_D_company ws_D_company rm_D_company (kx_Pc (dC, dI) classes (kx_T cI cL cZ) (WS_D_company cI cL cZ h0 a_currencyOf a_sortOf a_closingRates a_averageRates a_sums a_historicAmounts a_holdings a_report v_companies v_accounts v_reserve v_currencyOf) sz [.ref h0, .int p0]) (QC_D_company dC dI cI cL cZ (va_A (WS_D_company cI cL cZ h0 a_currencyOf a_sortOf a_closingRates a_averageRates a_sums a_historicAmounts a_holdings a_report v_companies v_accounts v_reserve v_currencyOf) sz) h0 a_currencyOf a_sortOf a_closingRates a_averageRates a_sums a_historicAmounts a_holdings a_report v_companies v_accounts v_reserve v_currencyOf post) 0 0 (va_A (WS_D_company cI cL cZ h0 a_currencyOf a_sortOf a_closingRates a_averageRates a_sums a_historicAmounts a_holdings a_report v_companies v_accounts v_reserve v_currencyOf) sz) := by
  refine Met.ofW (cc := prog_1_method_2_code) (maxL := 2) (ret := (some .int)) (by decide) rfl ?_
  intro p e s m args below meth c s₁ B hml hv
  obtain ⟨rfl, hsz, hP, hK, hD0, hN⟩ := hv
  have hx := B.exec
  have hb := B.bytes
  have hr := B.returns
  have hts := atoms_spec (ws := ws_D_company) B.pre
  have hown : s.vm.findClass R_D = some m.cls := findClass_of_methodNamed B.named
  have hlocks := B.notSynchronized
  subst hsz
  have hD := hD0.self (sz := s.heap.size)
  generalize hAe : va_A (WS_D_company cI cL cZ h0 a_currencyOf a_sortOf a_closingRates a_averageRates a_sums a_historicAmounts a_holdings a_report v_companies v_accounts v_reserve v_currencyOf) s.heap.size = A at hD ⊢
  have hA : ∀ q : Nat, s.heap.size ≤ q → A q := fun q h => by rw [← hAe]; exact Or.inr h
  have hS : va_S A s.heap s.heap [] := va_S.rf
  have hP : va_P (dC, dI) classes (WS_D_company cI cL cZ h0 a_currencyOf a_sortOf a_closingRates a_averageRates a_sums a_historicAmounts a_holdings a_report v_companies v_accounts v_reserve v_currencyOf) s.heap := hP
  have hl := lv_entry ([.ref h0, .int p0]) (n := 2) (Nat.le_of_ble_eq_true rfl)
  rw [lg_entry_eq]
  generalize (lg_sl ([.ref h0, .int p0]) ++ List.replicate (2 - (lg_sl ([.ref h0, .int p0])).length) Slot.unset).toArray = ls at hl ⊢
  have hl : lv_has ls 2 [(0, .ref h0), (1, .int p0)] := hl
  unfold wp_D_company at hw
  refine (show ∀ (H : Heap) (locs : List Loc), va_P (dC, dI) classes (WS_D_company cI cL cZ h0 a_currencyOf a_sortOf a_closingRates a_averageRates a_sums a_historicAmounts a_holdings a_report v_companies v_accounts v_reserve v_currencyOf) H → va_S A s.heap H locs → W p l e (headSpec ws_D_company rm_D_company).room s m ([.ref h0, .int p0] : List Value).toArray below meth c H locs 0 0 (MQ below (QC_D_company dC dI cI cL cZ A h0 a_currencyOf a_sortOf a_closingRates a_averageRates a_sums a_historicAmounts a_holdings a_report v_companies v_accounts v_reserve v_currencyOf post) ([.ref h0, .int p0] : List Value).toArray s 0 0 A) (F0 m 0 ls []) from ?_) _ _ hP hS
  intro H locs hP hS
  refine lv_iload_n hx hb d_D_company_0 rfl (lv_at hl 1 rfl) ?_
  refine kx_calli (ws' := fun u1 => (WS_D_company cI cL cZ h0 a_currencyOf a_sortOf a_closingRates a_averageRates a_sums a_historicAmounts a_holdings a_report v_companies v_accounts v_reserve v_currencyOf)) (va_runS (As := [.int p0]) (rest := []) ⟨hx, hb, hml, hown, hts⟩ (c_D_isCurrency l dC dI cI cL cZ  H.size p0 hw) ⟨(callB_of 1 hts (kx_good iw_124) rfl rfl rfl (hts _ (kx_w iw_1)) (hts _ (kx_w iw_122)) (by decide +kernel) ⟨Nat.le_of_ble_eq_true rfl, Nat.le_of_ble_eq_true rfl⟩), (hts _ (kx_w iw_123))⟩ (kx_preS hN hK hP hD [] (by decide) rfl) rfl rfl hl.1 rfl (lv_room (Nat.le_of_ble_eq_true rfl)) d_D_company_1 ⟨Nat.le_of_ble_eq_true rfl, Nat.le_of_ble_eq_true rfl⟩) hP hD hS hA [] [0, 1] rfl rfl (by decide) (by decide) [0, 1] (by decide) (fun _ => rfl) (fun r1 u1 H locs hw hP hD hS => ?_)
  have hP : va_P (dC, dI) classes (WS_D_company cI cL cZ h0 a_currencyOf a_sortOf a_closingRates a_averageRates a_sums a_historicAmounts a_holdings a_report v_companies v_accounts v_reserve v_currencyOf) H := hP
  have hD : va_D A (WS_D_company cI cL cZ h0 a_currencyOf a_sortOf a_closingRates a_averageRates a_sums a_historicAmounts a_holdings a_report v_companies v_accounts v_reserve v_currencyOf) := hD
  refine lv_if_eq (tgt := 16) hx hb d_D_company_4 rfl (fun hc => ?_) (fun hc => ?_)
  ·
    have hw := hw.1 hc
    refine lv_iconst (v := (-1)) hx hb d_D_company_16 (by decide) ?_
    exact W.iret (v := (-1)) hx hb hr (fun t ht hW => ⟨⟨(-1), (v_companies, v_currencyOf), rfl, hw, ⟨by rw [ht]; exact hP, hD⟩⟩, hS.F ht⟩) hS.2.2 d_D_company_17
  ·
    have hw := hw.2 hc
    refine lv_aload_n hx hb d_D_company_7 rfl (lv_at hl 0 rfl) ?_
    refine va_get (D := (dC, dI)) (ci := 2) (v := .int v_companies) (C := R_D) (T := F_D) (N := 11) hx hb hts (kx_in in_D) hown hK hP 0 rfl rfl 0 (by decide) (hts _ (kx_w iw_84)) (fun _ h9 => h9) rfl d_D_company_8 ?_
    refine lv_bipush (v := 12) hx hb d_D_company_11 (by decide) ?_
    refine lv_icmp_ne (tgt := 18) hx hb d_D_company_13 rfl (fun hc => ?_) (fun hc => ?_)
    ·
      have hw := hw.1 hc
      refine lv_aload_n hx hb d_D_company_18 rfl (lv_at hl 0 rfl) ?_
      refine va_get (D := (dC, dI)) (ci := 2) (v := .ref a_currencyOf) (C := R_D) (T := F_D) (N := 11) hx hb hts (kx_in in_D) hown hK hP 0 rfl rfl 1 (by decide) (hts _ (kx_w iw_85)) (fun _ h9 => h9) rfl d_D_company_19 ?_
      refine lv_aload_n hx hb d_D_company_22 rfl (lv_at hl 0 rfl) ?_
      refine va_get (D := (dC, dI)) (ci := 2) (v := .int v_companies) (C := R_D) (T := F_D) (N := 11) hx hb hts (kx_in in_D) hown hK hP 0 rfl rfl 0 (by decide) (hts _ (kx_w iw_84)) (fun _ h9 => h9) rfl d_D_company_23 ?_
      refine lv_iload_n hx hb d_D_company_26 rfl (lv_at hl 1 rfl) ?_
      obtain ⟨hi, hw⟩ := hw
      refine va_iast hx hb hK hP hD hS 1 0 rfl rfl hi d_D_company_27 (fun H locs hP hD hS => ?_)
      have hP : va_P (dC, dI) classes (WS_D_company cI cL cZ h0 a_currencyOf a_sortOf a_closingRates a_averageRates a_sums a_historicAmounts a_holdings a_report v_companies v_accounts v_reserve (upd v_currencyOf v_companies.toNatClampNeg p0)) H := hP
      have hD : va_D A (WS_D_company cI cL cZ h0 a_currencyOf a_sortOf a_closingRates a_averageRates a_sums a_historicAmounts a_holdings a_report v_companies v_accounts v_reserve (upd v_currencyOf v_companies.toNatClampNeg p0)) := hD
      refine lv_aload_n hx hb d_D_company_28 rfl (lv_at hl 0 rfl) ?_
      refine lv_dup hx hb d_D_company_29 rfl ?_
      refine va_get (D := (dC, dI)) (ci := 2) (v := .int v_companies) (C := R_D) (T := F_D) (N := 11) hx hb hts (kx_in in_D) hown hK hP 0 rfl rfl 0 (by decide) (hts _ (kx_w iw_84)) (fun _ h9 => h9) rfl d_D_company_30 ?_
      refine lv_iconst (v := 1) hx hb d_D_company_33 (by decide) ?_
      refine lv_iadd hx hb d_D_company_34 ?_
      refine va_put (D := (dC, dI)) (ci := 2) (v := .int (v_companies + 1)) (ty := .int) (C := R_D) (T := F_D) (N := 11) hx hb hts (kx_in in_D) t_D t_D_ok n_D hown hK hP hD hS 0 rfl rfl 0 (by decide) (hts _ (kx_w iw_84)) (fun _ h9 => h9) rfl (by decide +kernel) rfl rfl (Nat.le_of_ble_eq_true rfl) d_D_company_35 (fun H locs hP hD hS => ?_)
      have hP : va_P (dC, dI) classes (WS_D_company cI cL cZ h0 a_currencyOf a_sortOf a_closingRates a_averageRates a_sums a_historicAmounts a_holdings a_report (v_companies + 1) v_accounts v_reserve (upd v_currencyOf v_companies.toNatClampNeg p0)) H := hP
      have hD : va_D A (WS_D_company cI cL cZ h0 a_currencyOf a_sortOf a_closingRates a_averageRates a_sums a_historicAmounts a_holdings a_report (v_companies + 1) v_accounts v_reserve (upd v_currencyOf v_companies.toNatClampNeg p0)) := hD
      refine lv_aload_n hx hb d_D_company_38 rfl (lv_at hl 0 rfl) ?_
      refine va_get (D := (dC, dI)) (ci := 2) (v := .int (v_companies + 1)) (C := R_D) (T := F_D) (N := 11) hx hb hts (kx_in in_D) hown hK hP 0 rfl rfl 0 (by decide) (hts _ (kx_w iw_84)) (fun _ h9 => h9) rfl d_D_company_39 ?_
      refine lv_iconst (v := 1) hx hb d_D_company_42 (by decide) ?_
      refine lv_isub hx hb d_D_company_43 ?_
      exact W.iret (v := ((v_companies + 1) - 1)) hx hb hr (fun t ht hW => ⟨⟨((v_companies + 1) - 1), ((v_companies + 1), (upd v_currencyOf v_companies.toNatClampNeg p0)), rfl, hw, ⟨by rw [ht]; exact hP, hD⟩⟩, hS.F ht⟩) hS.2.2 d_D_company_44
    ·
      have hw := hw.2 hc
      refine lv_iconst (v := (-1)) hx hb d_D_company_16 (by decide) ?_
      exact W.iret (v := (-1)) hx hb hr (fun t ht hW => ⟨⟨(-1), (v_companies, v_currencyOf), rfl, hw, ⟨by rw [ht]; exact hP, hD⟩⟩, hS.F ht⟩) hS.2.2 d_D_company_17
/-! ConsolidationDesk.account(I)I -/
abbrev y_D_account : MethodName := ⟨"ConsolidationDesk", "account", "(I)I"⟩
theorem d_D_account_0 : decode prog_1_method_3_code 0 = .ok (.iload_n 1, 1) := by decide +kernel
theorem d_D_account_1 : decode prog_1_method_3_code 1 = .ok (.iconst 1, 1) := by decide +kernel
theorem d_D_account_2 : decode prog_1_method_3_code 2 = .ok (.if_icmp .lt 17, 3) := by decide +kernel
theorem d_D_account_5 : decode prog_1_method_3_code 5 = .ok (.iload_n 1, 1) := by decide +kernel
theorem d_D_account_6 : decode prog_1_method_3_code 6 = .ok (.iconst 4, 1) := by decide +kernel
theorem d_D_account_7 : decode prog_1_method_3_code 7 = .ok (.if_icmp .gt 12, 3) := by decide +kernel
theorem d_D_account_10 : decode prog_1_method_3_code 10 = .ok (.aload_n 0, 1) := by decide +kernel
theorem d_D_account_11 : decode prog_1_method_3_code 11 = .ok (.getfield 17, 3) := by decide +kernel
theorem d_D_account_14 : decode prog_1_method_3_code 14 = .ok (.bipush 12, 2) := by decide +kernel
theorem d_D_account_16 : decode prog_1_method_3_code 16 = .ok (.if_icmp .ne 5, 3) := by decide +kernel
theorem d_D_account_19 : decode prog_1_method_3_code 19 = .ok (.iconst (-1), 1) := by decide +kernel
theorem d_D_account_20 : decode prog_1_method_3_code 20 = .ok (.ireturn, 1) := by decide +kernel
theorem d_D_account_21 : decode prog_1_method_3_code 21 = .ok (.iload_n 1, 1) := by decide +kernel
theorem d_D_account_22 : decode prog_1_method_3_code 22 = .ok (.iconst 4, 1) := by decide +kernel
theorem d_D_account_23 : decode prog_1_method_3_code 23 = .ok (.if_icmp .ne 21, 3) := by decide +kernel
theorem d_D_account_26 : decode prog_1_method_3_code 26 = .ok (.aload_n 0, 1) := by decide +kernel
theorem d_D_account_27 : decode prog_1_method_3_code 27 = .ok (.getfield 23, 3) := by decide +kernel
theorem d_D_account_30 : decode prog_1_method_3_code 30 = .ok (.iconst (-1), 1) := by decide +kernel
theorem d_D_account_31 : decode prog_1_method_3_code 31 = .ok (.if_icmp .eq 5, 3) := by decide +kernel
theorem d_D_account_34 : decode prog_1_method_3_code 34 = .ok (.iconst (-1), 1) := by decide +kernel
theorem d_D_account_35 : decode prog_1_method_3_code 35 = .ok (.ireturn, 1) := by decide +kernel
theorem d_D_account_36 : decode prog_1_method_3_code 36 = .ok (.aload_n 0, 1) := by decide +kernel
theorem d_D_account_37 : decode prog_1_method_3_code 37 = .ok (.aload_n 0, 1) := by decide +kernel
theorem d_D_account_38 : decode prog_1_method_3_code 38 = .ok (.getfield 17, 3) := by decide +kernel
theorem d_D_account_41 : decode prog_1_method_3_code 41 = .ok (.putfield 23, 3) := by decide +kernel
theorem d_D_account_44 : decode prog_1_method_3_code 44 = .ok (.aload_n 0, 1) := by decide +kernel
theorem d_D_account_45 : decode prog_1_method_3_code 45 = .ok (.getfield 20, 3) := by decide +kernel
theorem d_D_account_48 : decode prog_1_method_3_code 48 = .ok (.aload_n 0, 1) := by decide +kernel
theorem d_D_account_49 : decode prog_1_method_3_code 49 = .ok (.getfield 17, 3) := by decide +kernel
theorem d_D_account_52 : decode prog_1_method_3_code 52 = .ok (.iload_n 1, 1) := by decide +kernel
theorem d_D_account_53 : decode prog_1_method_3_code 53 = .ok (.iastore, 1) := by decide +kernel
theorem d_D_account_54 : decode prog_1_method_3_code 54 = .ok (.aload_n 0, 1) := by decide +kernel
theorem d_D_account_55 : decode prog_1_method_3_code 55 = .ok (.dup, 1) := by decide +kernel
theorem d_D_account_56 : decode prog_1_method_3_code 56 = .ok (.getfield 17, 3) := by decide +kernel
theorem d_D_account_59 : decode prog_1_method_3_code 59 = .ok (.iconst 1, 1) := by decide +kernel
theorem d_D_account_60 : decode prog_1_method_3_code 60 = .ok (.iadd, 1) := by decide +kernel
theorem d_D_account_61 : decode prog_1_method_3_code 61 = .ok (.putfield 17, 3) := by decide +kernel
theorem d_D_account_64 : decode prog_1_method_3_code 64 = .ok (.aload_n 0, 1) := by decide +kernel
theorem d_D_account_65 : decode prog_1_method_3_code 65 = .ok (.getfield 17, 3) := by decide +kernel
theorem d_D_account_68 : decode prog_1_method_3_code 68 = .ok (.iconst 1, 1) := by decide +kernel
theorem d_D_account_69 : decode prog_1_method_3_code 69 = .ok (.isub, 1) := by decide +kernel
theorem d_D_account_70 : decode prog_1_method_3_code 70 = .ok (.ireturn, 1) := by decide +kernel
abbrev WS_D_account (cI cL cZ : ClassId)  (h0 a_currencyOf a_sortOf a_closingRates a_averageRates a_sums a_historicAmounts a_holdings a_report : Nat) (v_companies : Int32) (v_accounts : Int32) (v_reserve : Int32) (v_sortOf : (Nat → Int32)) : va_W := [(h0, .inr (2, [.int v_companies, .ref a_currencyOf, .int v_accounts, .ref a_sortOf, .int v_reserve, .ref a_closingRates, .ref a_averageRates, .ref a_sums, .ref a_historicAmounts, .ref a_holdings, .ref a_report])), (a_sortOf, .inl (cI, 12, .inl v_sortOf))]
def wp_D_account  (p0 : Int32) (v_accounts : Int32) (v_reserve : Int32) (v_sortOf : (Nat → Int32)) (post : Int32 → (Int32 × Int32 × (Nat → Int32)) → Prop) : Prop := ((p0 < 1 → post (-1) (v_accounts, v_reserve, v_sortOf)) ∧ (¬ p0 < 1 → ((4 < p0 → post (-1) (v_accounts, v_reserve, v_sortOf)) ∧ (¬ 4 < p0 → ((¬ v_accounts = 12 → ((¬ p0 = 4 → (vp_in v_accounts 12 ∧ post ((v_accounts + 1) - 1) ((v_accounts + 1), v_reserve, (upd v_sortOf v_accounts.toNatClampNeg p0)))) ∧ (p0 = 4 → ((v_reserve = (-1) → (vp_in v_accounts 12 ∧ post ((v_accounts + 1) - 1) ((v_accounts + 1), v_accounts, (upd v_sortOf v_accounts.toNatClampNeg p0)))) ∧ (¬ v_reserve = (-1) → post (-1) (v_accounts, v_reserve, v_sortOf)))))) ∧ (v_accounts = 12 → post (-1) (v_accounts, v_reserve, v_sortOf)))))))
abbrev ws_D_account : List Cond := .code y_D_account prog_1_method_3_code 2 (some .int) :: kxW
abbrev rm_D_account : Room := { frames := 0, cells := 0, slots := 0, locals := 0 }
abbrev QC_D_account (dC : Nat → ClassId) (dI : Nat → Nat → Nat) (cI cL cZ : ClassId) (A : Nat → Prop)  (h0 a_currencyOf a_sortOf a_closingRates a_averageRates a_sums a_historicAmounts a_holdings a_report : Nat) (v_companies : Int32) (v_accounts : Int32) (v_reserve : Int32) (v_sortOf : (Nat → Int32)) (post : Int32 → (Int32 × Int32 × (Nat → Int32)) → Prop) : Array Value → State → Outcome → State → Prop := va_Qi post (fun (u : Int32 × Int32 × (Nat → Int32)) t => kx_B (dC, dI) classes A (WS_D_account cI cL cZ h0 a_currencyOf a_sortOf a_closingRates a_averageRates a_sums a_historicAmounts a_holdings a_report v_companies u.1 u.2.1 u.2.2) t) A
set_option maxHeartbeats 4000000 in
set_option maxRecDepth 100000 in
theorem c_D_account (l : Launch) (dC : Nat → ClassId) (dI : Nat → Nat → Nat) (cI cL cZ : ClassId)  (h0 a_currencyOf a_sortOf a_closingRates a_averageRates a_sums a_historicAmounts a_holdings a_report : Nat) (v_companies : Int32) (v_accounts : Int32) (v_reserve : Int32) (v_sortOf : (Nat → Int32)) (sz : Nat) (p0 : Int32) {post : Int32 → (Int32 × Int32 × (Nat → Int32)) → Prop} (hw : wp_D_account p0 v_accounts v_reserve v_sortOf post) : Met l y_D_account ws_D_account rm_D_account (kx_Pc (dC, dI) classes (kx_T cI cL cZ) (WS_D_account cI cL cZ h0 a_currencyOf a_sortOf a_closingRates a_averageRates a_sums a_historicAmounts a_holdings a_report v_companies v_accounts v_reserve v_sortOf) sz [.ref h0, .int p0]) (QC_D_account dC dI cI cL cZ (va_A (WS_D_account cI cL cZ h0 a_currencyOf a_sortOf a_closingRates a_averageRates a_sums a_historicAmounts a_holdings a_report v_companies v_accounts v_reserve v_sortOf) sz) h0 a_currencyOf a_sortOf a_closingRates a_averageRates a_sums a_historicAmounts a_holdings a_report v_companies v_accounts v_reserve v_sortOf post) 0 0 (va_A (WS_D_account cI cL cZ h0 a_currencyOf a_sortOf a_closingRates a_averageRates a_sums a_historicAmounts a_holdings a_report v_companies v_accounts v_reserve v_sortOf) sz) := by
  refine Met.ofW (cc := prog_1_method_3_code) (maxL := 2) (ret := (some .int)) (by decide) rfl ?_
  intro p e s m args below meth c s₁ B hml hv
  obtain ⟨rfl, hsz, hP, hK, hD0, hN⟩ := hv
  have hx := B.exec
  have hb := B.bytes
  have hr := B.returns
  have hts := atoms_spec (ws := ws_D_account) B.pre
  have hown : s.vm.findClass R_D = some m.cls := findClass_of_methodNamed B.named
  have hlocks := B.notSynchronized
  subst hsz
  have hD := hD0.self (sz := s.heap.size)
  generalize hAe : va_A (WS_D_account cI cL cZ h0 a_currencyOf a_sortOf a_closingRates a_averageRates a_sums a_historicAmounts a_holdings a_report v_companies v_accounts v_reserve v_sortOf) s.heap.size = A at hD ⊢
  have hA : ∀ q : Nat, s.heap.size ≤ q → A q := fun q h => by rw [← hAe]; exact Or.inr h
  have hS : va_S A s.heap s.heap [] := va_S.rf
  have hP : va_P (dC, dI) classes (WS_D_account cI cL cZ h0 a_currencyOf a_sortOf a_closingRates a_averageRates a_sums a_historicAmounts a_holdings a_report v_companies v_accounts v_reserve v_sortOf) s.heap := hP
  have hl := lv_entry ([.ref h0, .int p0]) (n := 2) (Nat.le_of_ble_eq_true rfl)
  rw [lg_entry_eq]
  generalize (lg_sl ([.ref h0, .int p0]) ++ List.replicate (2 - (lg_sl ([.ref h0, .int p0])).length) Slot.unset).toArray = ls at hl ⊢
  have hl : lv_has ls 2 [(0, .ref h0), (1, .int p0)] := hl
  unfold wp_D_account at hw
  refine (show ∀ (H : Heap) (locs : List Loc), va_P (dC, dI) classes (WS_D_account cI cL cZ h0 a_currencyOf a_sortOf a_closingRates a_averageRates a_sums a_historicAmounts a_holdings a_report v_companies v_accounts v_reserve v_sortOf) H → va_S A s.heap H locs → W p l e (headSpec ws_D_account rm_D_account).room s m ([.ref h0, .int p0] : List Value).toArray below meth c H locs 0 0 (MQ below (QC_D_account dC dI cI cL cZ A h0 a_currencyOf a_sortOf a_closingRates a_averageRates a_sums a_historicAmounts a_holdings a_report v_companies v_accounts v_reserve v_sortOf post) ([.ref h0, .int p0] : List Value).toArray s 0 0 A) (F0 m 0 ls []) from ?_) _ _ hP hS
  intro H locs hP hS
  refine lv_iload_n hx hb d_D_account_0 rfl (lv_at hl 1 rfl) ?_
  refine lv_iconst (v := 1) hx hb d_D_account_1 (by decide) ?_
  refine lv_icmp_lt (tgt := 19) hx hb d_D_account_2 rfl (fun hc => ?_) (fun hc => ?_)
  ·
    have hw := hw.1 hc
    refine lv_iconst (v := (-1)) hx hb d_D_account_19 (by decide) ?_
    exact W.iret (v := (-1)) hx hb hr (fun t ht hW => ⟨⟨(-1), (v_accounts, v_reserve, v_sortOf), rfl, hw, ⟨by rw [ht]; exact hP, hD⟩⟩, hS.F ht⟩) hS.2.2 d_D_account_20
  ·
    have hw := hw.2 hc
    refine lv_iload_n hx hb d_D_account_5 rfl (lv_at hl 1 rfl) ?_
    refine lv_iconst (v := 4) hx hb d_D_account_6 (by decide) ?_
    refine lv_icmp_gt (tgt := 19) hx hb d_D_account_7 rfl (fun hc => ?_) (fun hc => ?_)
    ·
      have hw := hw.1 hc
      refine lv_iconst (v := (-1)) hx hb d_D_account_19 (by decide) ?_
      exact W.iret (v := (-1)) hx hb hr (fun t ht hW => ⟨⟨(-1), (v_accounts, v_reserve, v_sortOf), rfl, hw, ⟨by rw [ht]; exact hP, hD⟩⟩, hS.F ht⟩) hS.2.2 d_D_account_20
    ·
      have hw := hw.2 hc
      refine lv_aload_n hx hb d_D_account_10 rfl (lv_at hl 0 rfl) ?_
      refine va_get (D := (dC, dI)) (ci := 2) (v := .int v_accounts) (C := R_D) (T := F_D) (N := 11) hx hb hts (kx_in in_D) hown hK hP 0 rfl rfl 2 (by decide) (hts _ (kx_w iw_86)) (fun _ h9 => h9) rfl d_D_account_11 ?_
      refine lv_bipush (v := 12) hx hb d_D_account_14 (by decide) ?_
      refine lv_icmp_ne (tgt := 21) hx hb d_D_account_16 rfl (fun hc => ?_) (fun hc => ?_)
      ·
        have hw := hw.1 hc
        refine lv_iload_n hx hb d_D_account_21 rfl (lv_at hl 1 rfl) ?_
        refine lv_iconst (v := 4) hx hb d_D_account_22 (by decide) ?_
        refine lv_icmp_ne (tgt := 44) hx hb d_D_account_23 rfl (fun hc => ?_) (fun hc => ?_)
        ·
          have hw := hw.1 hc
          refine lv_aload_n hx hb d_D_account_44 rfl (lv_at hl 0 rfl) ?_
          refine va_get (D := (dC, dI)) (ci := 2) (v := .ref a_sortOf) (C := R_D) (T := F_D) (N := 11) hx hb hts (kx_in in_D) hown hK hP 0 rfl rfl 3 (by decide) (hts _ (kx_w iw_87)) (fun _ h9 => h9) rfl d_D_account_45 ?_
          refine lv_aload_n hx hb d_D_account_48 rfl (lv_at hl 0 rfl) ?_
          refine va_get (D := (dC, dI)) (ci := 2) (v := .int v_accounts) (C := R_D) (T := F_D) (N := 11) hx hb hts (kx_in in_D) hown hK hP 0 rfl rfl 2 (by decide) (hts _ (kx_w iw_86)) (fun _ h9 => h9) rfl d_D_account_49 ?_
          refine lv_iload_n hx hb d_D_account_52 rfl (lv_at hl 1 rfl) ?_
          obtain ⟨hi, hw⟩ := hw
          refine va_iast hx hb hK hP hD hS 1 0 rfl rfl hi d_D_account_53 (fun H locs hP hD hS => ?_)
          have hP : va_P (dC, dI) classes (WS_D_account cI cL cZ h0 a_currencyOf a_sortOf a_closingRates a_averageRates a_sums a_historicAmounts a_holdings a_report v_companies v_accounts v_reserve (upd v_sortOf v_accounts.toNatClampNeg p0)) H := hP
          have hD : va_D A (WS_D_account cI cL cZ h0 a_currencyOf a_sortOf a_closingRates a_averageRates a_sums a_historicAmounts a_holdings a_report v_companies v_accounts v_reserve (upd v_sortOf v_accounts.toNatClampNeg p0)) := hD
          refine lv_aload_n hx hb d_D_account_54 rfl (lv_at hl 0 rfl) ?_
          refine lv_dup hx hb d_D_account_55 rfl ?_
          refine va_get (D := (dC, dI)) (ci := 2) (v := .int v_accounts) (C := R_D) (T := F_D) (N := 11) hx hb hts (kx_in in_D) hown hK hP 0 rfl rfl 2 (by decide) (hts _ (kx_w iw_86)) (fun _ h9 => h9) rfl d_D_account_56 ?_
          refine lv_iconst (v := 1) hx hb d_D_account_59 (by decide) ?_
          refine lv_iadd hx hb d_D_account_60 ?_
          refine va_put (D := (dC, dI)) (ci := 2) (v := .int (v_accounts + 1)) (ty := .int) (C := R_D) (T := F_D) (N := 11) hx hb hts (kx_in in_D) t_D t_D_ok n_D hown hK hP hD hS 0 rfl rfl 2 (by decide) (hts _ (kx_w iw_86)) (fun _ h9 => h9) rfl (by decide +kernel) rfl rfl (Nat.le_of_ble_eq_true rfl) d_D_account_61 (fun H locs hP hD hS => ?_)
          have hP : va_P (dC, dI) classes (WS_D_account cI cL cZ h0 a_currencyOf a_sortOf a_closingRates a_averageRates a_sums a_historicAmounts a_holdings a_report v_companies (v_accounts + 1) v_reserve (upd v_sortOf v_accounts.toNatClampNeg p0)) H := hP
          have hD : va_D A (WS_D_account cI cL cZ h0 a_currencyOf a_sortOf a_closingRates a_averageRates a_sums a_historicAmounts a_holdings a_report v_companies (v_accounts + 1) v_reserve (upd v_sortOf v_accounts.toNatClampNeg p0)) := hD
          refine lv_aload_n hx hb d_D_account_64 rfl (lv_at hl 0 rfl) ?_
          refine va_get (D := (dC, dI)) (ci := 2) (v := .int (v_accounts + 1)) (C := R_D) (T := F_D) (N := 11) hx hb hts (kx_in in_D) hown hK hP 0 rfl rfl 2 (by decide) (hts _ (kx_w iw_86)) (fun _ h9 => h9) rfl d_D_account_65 ?_
          refine lv_iconst (v := 1) hx hb d_D_account_68 (by decide) ?_
          refine lv_isub hx hb d_D_account_69 ?_
          exact W.iret (v := ((v_accounts + 1) - 1)) hx hb hr (fun t ht hW => ⟨⟨((v_accounts + 1) - 1), ((v_accounts + 1), v_reserve, (upd v_sortOf v_accounts.toNatClampNeg p0)), rfl, hw, ⟨by rw [ht]; exact hP, hD⟩⟩, hS.F ht⟩) hS.2.2 d_D_account_70
        ·
          have hw := hw.2 hc
          refine lv_aload_n hx hb d_D_account_26 rfl (lv_at hl 0 rfl) ?_
          refine va_get (D := (dC, dI)) (ci := 2) (v := .int v_reserve) (C := R_D) (T := F_D) (N := 11) hx hb hts (kx_in in_D) hown hK hP 0 rfl rfl 4 (by decide) (hts _ (kx_w iw_88)) (fun _ h9 => h9) rfl d_D_account_27 ?_
          refine lv_iconst (v := (-1)) hx hb d_D_account_30 (by decide) ?_
          refine lv_icmp_eq (tgt := 36) hx hb d_D_account_31 rfl (fun hc => ?_) (fun hc => ?_)
          ·
            have hw := hw.1 hc
            refine lv_aload_n hx hb d_D_account_36 rfl (lv_at hl 0 rfl) ?_
            refine lv_aload_n hx hb d_D_account_37 rfl (lv_at hl 0 rfl) ?_
            refine va_get (D := (dC, dI)) (ci := 2) (v := .int v_accounts) (C := R_D) (T := F_D) (N := 11) hx hb hts (kx_in in_D) hown hK hP 0 rfl rfl 2 (by decide) (hts _ (kx_w iw_86)) (fun _ h9 => h9) rfl d_D_account_38 ?_
            refine va_put (D := (dC, dI)) (ci := 2) (v := .int v_accounts) (ty := .int) (C := R_D) (T := F_D) (N := 11) hx hb hts (kx_in in_D) t_D t_D_ok n_D hown hK hP hD hS 0 rfl rfl 4 (by decide) (hts _ (kx_w iw_88)) (fun _ h9 => h9) rfl (by decide +kernel) rfl rfl (Nat.le_of_ble_eq_true rfl) d_D_account_41 (fun H locs hP hD hS => ?_)
            have hP : va_P (dC, dI) classes (WS_D_account cI cL cZ h0 a_currencyOf a_sortOf a_closingRates a_averageRates a_sums a_historicAmounts a_holdings a_report v_companies v_accounts v_accounts v_sortOf) H := hP
            have hD : va_D A (WS_D_account cI cL cZ h0 a_currencyOf a_sortOf a_closingRates a_averageRates a_sums a_historicAmounts a_holdings a_report v_companies v_accounts v_accounts v_sortOf) := hD
            refine lv_aload_n hx hb d_D_account_44 rfl (lv_at hl 0 rfl) ?_
            refine va_get (D := (dC, dI)) (ci := 2) (v := .ref a_sortOf) (C := R_D) (T := F_D) (N := 11) hx hb hts (kx_in in_D) hown hK hP 0 rfl rfl 3 (by decide) (hts _ (kx_w iw_87)) (fun _ h9 => h9) rfl d_D_account_45 ?_
            refine lv_aload_n hx hb d_D_account_48 rfl (lv_at hl 0 rfl) ?_
            refine va_get (D := (dC, dI)) (ci := 2) (v := .int v_accounts) (C := R_D) (T := F_D) (N := 11) hx hb hts (kx_in in_D) hown hK hP 0 rfl rfl 2 (by decide) (hts _ (kx_w iw_86)) (fun _ h9 => h9) rfl d_D_account_49 ?_
            refine lv_iload_n hx hb d_D_account_52 rfl (lv_at hl 1 rfl) ?_
            obtain ⟨hi, hw⟩ := hw
            refine va_iast hx hb hK hP hD hS 1 0 rfl rfl hi d_D_account_53 (fun H locs hP hD hS => ?_)
            have hP : va_P (dC, dI) classes (WS_D_account cI cL cZ h0 a_currencyOf a_sortOf a_closingRates a_averageRates a_sums a_historicAmounts a_holdings a_report v_companies v_accounts v_accounts (upd v_sortOf v_accounts.toNatClampNeg p0)) H := hP
            have hD : va_D A (WS_D_account cI cL cZ h0 a_currencyOf a_sortOf a_closingRates a_averageRates a_sums a_historicAmounts a_holdings a_report v_companies v_accounts v_accounts (upd v_sortOf v_accounts.toNatClampNeg p0)) := hD
            refine lv_aload_n hx hb d_D_account_54 rfl (lv_at hl 0 rfl) ?_
            refine lv_dup hx hb d_D_account_55 rfl ?_
            refine va_get (D := (dC, dI)) (ci := 2) (v := .int v_accounts) (C := R_D) (T := F_D) (N := 11) hx hb hts (kx_in in_D) hown hK hP 0 rfl rfl 2 (by decide) (hts _ (kx_w iw_86)) (fun _ h9 => h9) rfl d_D_account_56 ?_
            refine lv_iconst (v := 1) hx hb d_D_account_59 (by decide) ?_
            refine lv_iadd hx hb d_D_account_60 ?_
            refine va_put (D := (dC, dI)) (ci := 2) (v := .int (v_accounts + 1)) (ty := .int) (C := R_D) (T := F_D) (N := 11) hx hb hts (kx_in in_D) t_D t_D_ok n_D hown hK hP hD hS 0 rfl rfl 2 (by decide) (hts _ (kx_w iw_86)) (fun _ h9 => h9) rfl (by decide +kernel) rfl rfl (Nat.le_of_ble_eq_true rfl) d_D_account_61 (fun H locs hP hD hS => ?_)
            have hP : va_P (dC, dI) classes (WS_D_account cI cL cZ h0 a_currencyOf a_sortOf a_closingRates a_averageRates a_sums a_historicAmounts a_holdings a_report v_companies (v_accounts + 1) v_accounts (upd v_sortOf v_accounts.toNatClampNeg p0)) H := hP
            have hD : va_D A (WS_D_account cI cL cZ h0 a_currencyOf a_sortOf a_closingRates a_averageRates a_sums a_historicAmounts a_holdings a_report v_companies (v_accounts + 1) v_accounts (upd v_sortOf v_accounts.toNatClampNeg p0)) := hD
            refine lv_aload_n hx hb d_D_account_64 rfl (lv_at hl 0 rfl) ?_
            refine va_get (D := (dC, dI)) (ci := 2) (v := .int (v_accounts + 1)) (C := R_D) (T := F_D) (N := 11) hx hb hts (kx_in in_D) hown hK hP 0 rfl rfl 2 (by decide) (hts _ (kx_w iw_86)) (fun _ h9 => h9) rfl d_D_account_65 ?_
            refine lv_iconst (v := 1) hx hb d_D_account_68 (by decide) ?_
            refine lv_isub hx hb d_D_account_69 ?_
            exact W.iret (v := ((v_accounts + 1) - 1)) hx hb hr (fun t ht hW => ⟨⟨((v_accounts + 1) - 1), ((v_accounts + 1), v_accounts, (upd v_sortOf v_accounts.toNatClampNeg p0)), rfl, hw, ⟨by rw [ht]; exact hP, hD⟩⟩, hS.F ht⟩) hS.2.2 d_D_account_70
          ·
            have hw := hw.2 hc
            refine lv_iconst (v := (-1)) hx hb d_D_account_34 (by decide) ?_
            exact W.iret (v := (-1)) hx hb hr (fun t ht hW => ⟨⟨(-1), (v_accounts, v_reserve, v_sortOf), rfl, hw, ⟨by rw [ht]; exact hP, hD⟩⟩, hS.F ht⟩) hS.2.2 d_D_account_35
      ·
        have hw := hw.2 hc
        refine lv_iconst (v := (-1)) hx hb d_D_account_19 (by decide) ?_
        exact W.iret (v := (-1)) hx hb hr (fun t ht hW => ⟨⟨(-1), (v_accounts, v_reserve, v_sortOf), rfl, hw, ⟨by rw [ht]; exact hP, hD⟩⟩, hS.F ht⟩) hS.2.2 d_D_account_20
