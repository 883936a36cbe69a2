/-! ConsolidationDeskModel.thrown()I -/
abbrev y_M_thrown : MethodName := ⟨"ConsolidationDeskModel", "thrown", "()I"⟩
theorem d_M_thrown_0 : decode prog_5_method_2_code 0 = .ok (.aload_n 0, 1) := by decide +kernel
theorem d_M_thrown_1 : decode prog_5_method_2_code 1 = .ok (.getfield 49, 3) := by decide +kernel
theorem d_M_thrown_4 : decode prog_5_method_2_code 4 = .ok (.ireturn, 1) := by decide +kernel
abbrev WS_M_thrown (cI cL cZ : ClassId)  (h0 a_currency a_sort a_closing a_average a_held a_sum a_told a_left a_step a_outside a_item : Nat) (v_thrown : Int32) (v_companies : Int32) (v_accounts : Int32) (v_done : Int32) (v_items : Int32) : va_W := [(h0, .inr (3, [.int v_thrown, .int v_companies, .int v_accounts, .ref a_currency, .ref a_sort, .ref a_closing, .ref a_average, .ref a_held, .ref a_sum, .ref a_told, .int v_done, .ref a_left, .ref a_step, .ref a_outside, .int v_items, .ref a_item]))]
def wp_M_thrown   (v_thrown : Int32) (post : Int32 → Unit → Prop) : Prop := post v_thrown ()
abbrev ws_M_thrown : List Cond := .code y_M_thrown prog_5_method_2_code 1 (some .int) :: kxW
abbrev rm_M_thrown : Room := { frames := 0, cells := 0, slots := 0, locals := 0 }
abbrev QC_M_thrown (dC : Nat → ClassId) (dI : Nat → Nat → Nat) (cI cL cZ : ClassId) (A : Nat → Prop)  (h0 a_currency a_sort a_closing a_average a_held a_sum a_told a_left a_step a_outside a_item : Nat) (v_thrown : Int32) (v_companies : Int32) (v_accounts : Int32) (v_done : Int32) (v_items : Int32) (post : Int32 → Unit → Prop) : Array Value → State → Outcome → State → Prop := va_Qi post (fun (u : Unit) t => kx_B (dC, dI) classes A (WS_M_thrown cI cL cZ h0 a_currency a_sort a_closing a_average a_held a_sum a_told a_left a_step a_outside a_item v_thrown v_companies v_accounts v_done v_items) t) A
set_option maxHeartbeats 4000000 in
set_option maxRecDepth 100000 in
theorem c_M_thrown (l : Launch) (dC : Nat → ClassId) (dI : Nat → Nat → Nat) (cI cL cZ : ClassId)  (h0 a_currency a_sort a_closing a_average a_held a_sum a_told a_left a_step a_outside a_item : Nat) (v_thrown : Int32) (v_companies : Int32) (v_accounts : Int32) (v_done : Int32) (v_items : Int32) (sz : Nat)  {post : Int32 → Unit → Prop} (hw : wp_M_thrown v_thrown post) : Met l y_M_thrown ws_M_thrown rm_M_thrown (kx_Pc (dC, dI) classes (kx_T cI cL cZ) (WS_M_thrown cI cL cZ h0 a_currency a_sort a_closing a_average a_held a_sum a_told a_left a_step a_outside a_item v_thrown v_companies v_accounts v_done v_items) sz [.ref h0]) (QC_M_thrown dC dI cI cL cZ (va_A (WS_M_thrown cI cL cZ h0 a_currency a_sort a_closing a_average a_held a_sum a_told a_left a_step a_outside a_item v_thrown v_companies v_accounts v_done v_items) sz) h0 a_currency a_sort a_closing a_average a_held a_sum a_told a_left a_step a_outside a_item v_thrown v_companies v_accounts v_done v_items post) 0 0 (va_A (WS_M_thrown cI cL cZ h0 a_currency a_sort a_closing a_average a_held a_sum a_told a_left a_step a_outside a_item v_thrown v_companies v_accounts v_done v_items) sz) := by
  refine Met.ofW (cc := prog_5_method_2_code) (maxL := 1) (ret := (some .int)) (by decide) rfl ?_
  intro p e s m args below meth c s₁ B hml hv
  obtain ⟨rfl, hsz, hP, hK, hD0, hN⟩ := hv
  have hx := B.exec
  have hb := B.bytes
  have hr := B.returns
  have hts := atoms_spec (ws := ws_M_thrown) B.pre
  have hown : s.vm.findClass R_M = some m.cls := findClass_of_methodNamed B.named
  have hlocks := B.notSynchronized
  subst hsz
  have hD := hD0.self (sz := s.heap.size)
  generalize hAe : va_A (WS_M_thrown cI cL cZ h0 a_currency a_sort a_closing a_average a_held a_sum a_told a_left a_step a_outside a_item v_thrown v_companies v_accounts v_done v_items) s.heap.size = A at hD ⊢
  have hA : ∀ q : Nat, s.heap.size ≤ q → A q := fun q h => by rw [← hAe]; exact Or.inr h
  have hS : va_S A s.heap s.heap [] := va_S.rf
  have hP : va_P (dC, dI) classes (WS_M_thrown cI cL cZ h0 a_currency a_sort a_closing a_average a_held a_sum a_told a_left a_step a_outside a_item v_thrown v_companies v_accounts v_done v_items) s.heap := hP
  have hl := lv_entry ([.ref h0]) (n := 1) (Nat.le_of_ble_eq_true rfl)
  rw [lg_entry_eq]
  generalize (lg_sl ([.ref h0]) ++ List.replicate (1 - (lg_sl ([.ref h0])).length) Slot.unset).toArray = ls at hl ⊢
  have hl : lv_has ls 1 [(0, .ref h0)] := hl
  unfold wp_M_thrown at hw
  refine (show ∀ (H : Heap) (locs : List Loc), va_P (dC, dI) classes (WS_M_thrown cI cL cZ h0 a_currency a_sort a_closing a_average a_held a_sum a_told a_left a_step a_outside a_item v_thrown v_companies v_accounts v_done v_items) H → va_S A s.heap H locs → W p l e (headSpec ws_M_thrown rm_M_thrown).room s m ([.ref h0] : List Value).toArray below meth c H locs 0 0 (MQ below (QC_M_thrown dC dI cI cL cZ A h0 a_currency a_sort a_closing a_average a_held a_sum a_told a_left a_step a_outside a_item v_thrown v_companies v_accounts v_done v_items post) ([.ref h0] : List Value).toArray s 0 0 A) (F0 m 0 ls []) from ?_) _ _ hP hS
  intro H locs hP hS
  refine lv_aload_n hx hb d_M_thrown_0 rfl (lv_at hl 0 rfl) ?_
  refine va_get (D := (dC, dI)) (ci := 3) (v := .int v_thrown) (C := R_M) (T := F_M) (N := 16) hx hb hts (kx_in in_M) hown hK hP 0 rfl rfl 0 (by decide) (hts _ (kx_w iw_475)) (fun _ h9 => h9) rfl d_M_thrown_1 ?_
  exact W.iret (v := v_thrown) hx hb hr (fun t ht hW => ⟨⟨v_thrown, (), rfl, hw, ⟨by rw [ht]; exact hP, hD⟩⟩, hS.F ht⟩) hS.2.2 d_M_thrown_4
/-! ConsolidationDeskModel.isCompany(I)Z -/
abbrev y_M_isCompany : MethodName := ⟨"ConsolidationDeskModel", "isCompany", "(I)Z"⟩
theorem d_M_isCompany_0 : decode prog_5_method_3_code 0 = .ok (.iload_n 1, 1) := by decide +kernel
theorem d_M_isCompany_1 : decode prog_5_method_3_code 1 = .ok (.ifCond .lt 15, 3) := by decide +kernel
theorem d_M_isCompany_4 : decode prog_5_method_3_code 4 = .ok (.iload_n 1, 1) := by decide +kernel
theorem d_M_isCompany_5 : decode prog_5_method_3_code 5 = .ok (.aload_n 0, 1) := by decide +kernel
theorem d_M_isCompany_6 : decode prog_5_method_3_code 6 = .ok (.getfield 44, 3) := by decide +kernel
theorem d_M_isCompany_9 : decode prog_5_method_3_code 9 = .ok (.if_icmp .ge 7, 3) := by decide +kernel
theorem d_M_isCompany_12 : decode prog_5_method_3_code 12 = .ok (.iconst 1, 1) := by decide +kernel
theorem d_M_isCompany_13 : decode prog_5_method_3_code 13 = .ok (.goto 4, 3) := by decide +kernel
theorem d_M_isCompany_16 : decode prog_5_method_3_code 16 = .ok (.iconst 0, 1) := by decide +kernel
theorem d_M_isCompany_17 : decode prog_5_method_3_code 17 = .ok (.ireturn, 1) := by decide +kernel
abbrev WS_M_isCompany (cI cL cZ : ClassId)  (h0 a_currency a_sort a_closing a_average a_held a_sum a_told a_left a_step a_outside a_item : Nat) (v_thrown : Int32) (v_companies : Int32) (v_accounts : Int32) (v_done : Int32) (v_items : Int32) : va_W := [(h0, .inr (3, [.int v_thrown, .int v_companies, .int v_accounts, .ref a_currency, .ref a_sort, .ref a_closing, .ref a_average, .ref a_held, .ref a_sum, .ref a_told, .int v_done, .ref a_left, .ref a_step, .ref a_outside, .int v_items, .ref a_item]))]
def wp_M_isCompany  (p0 : Int32) (v_companies : Int32) (post : Int32 → Unit → Prop) : Prop := ((p0 < 0 → post 0 ()) ∧ (¬ p0 < 0 → ((v_companies ≤ p0 → post 0 ()) ∧ (¬ v_companies ≤ p0 → post 1 ()))))
abbrev ws_M_isCompany : List Cond := .code y_M_isCompany prog_5_method_3_code 2 (some .boolean) :: kxW
abbrev rm_M_isCompany : Room := { frames := 0, cells := 0, slots := 0, locals := 0 }
abbrev QC_M_isCompany (dC : Nat → ClassId) (dI : Nat → Nat → Nat) (cI cL cZ : ClassId) (A : Nat → Prop)  (h0 a_currency a_sort a_closing a_average a_held a_sum a_told a_left a_step a_outside a_item : Nat) (v_thrown : Int32) (v_companies : Int32) (v_accounts : Int32) (v_done : Int32) (v_items : Int32) (post : Int32 → Unit → Prop) : Array Value → State → Outcome → State → Prop := va_Qi post (fun (u : Unit) t => kx_B (dC, dI) classes A (WS_M_isCompany cI cL cZ h0 a_currency a_sort a_closing a_average a_held a_sum a_told a_left a_step a_outside a_item v_thrown v_companies v_accounts v_done v_items) t) A
set_option maxHeartbeats 4000000 in
set_option maxRecDepth 100000 in
theorem c_M_isCompany (l : Launch) (dC : Nat → ClassId) (dI : Nat → Nat → Nat) (cI cL cZ : ClassId)  (h0 a_currency a_sort a_closing a_average a_held a_sum a_told a_left a_step a_outside a_item : Nat) (v_thrown : Int32) (v_companies : Int32) (v_accounts : Int32) (v_done : Int32) (v_items : Int32) (sz : Nat) (p0 : Int32) {post : Int32 → Unit → Prop} (hw : wp_M_isCompany p0 v_companies post) : Met l y_M_isCompany ws_M_isCompany rm_M_isCompany (kx_Pc (dC, dI) classes (kx_T cI cL cZ) (WS_M_isCompany cI cL cZ h0 a_currency a_sort a_closing a_average a_held a_sum a_told a_left a_step a_outside a_item v_thrown v_companies v_accounts v_done v_items) sz [.ref h0, .int p0]) (QC_M_isCompany dC dI cI cL cZ (va_A (WS_M_isCompany cI cL cZ h0 a_currency a_sort a_closing a_average a_held a_sum a_told a_left a_step a_outside a_item v_thrown v_companies v_accounts v_done v_items) sz) h0 a_currency a_sort a_closing a_average a_held a_sum a_told a_left a_step a_outside a_item v_thrown v_companies v_accounts v_done v_items post) 0 0 (va_A (WS_M_isCompany cI cL cZ h0 a_currency a_sort a_closing a_average a_held a_sum a_told a_left a_step a_outside a_item v_thrown v_companies v_accounts v_done v_items) sz) := by
  refine Met.ofW (cc := prog_5_method_3_code) (maxL := 2) (ret := (some .boolean)) (by decide) rfl ?_
  intro p e s m args below meth c s₁ B hml hv
  obtain ⟨rfl, hsz, hP, hK, hD0, hN⟩ := hv
  have hx := B.exec
  have hb := B.bytes
  have hr := B.returns
  have hts := atoms_spec (ws := ws_M_isCompany) B.pre
  have hown : s.vm.findClass R_M = some m.cls := findClass_of_methodNamed B.named
  have hlocks := B.notSynchronized
  subst hsz
  have hD := hD0.self (sz := s.heap.size)
  generalize hAe : va_A (WS_M_isCompany cI cL cZ h0 a_currency a_sort a_closing a_average a_held a_sum a_told a_left a_step a_outside a_item v_thrown v_companies v_accounts v_done v_items) s.heap.size = A at hD ⊢
  have hA : ∀ q : Nat, s.heap.size ≤ q → A q := fun q h => by rw [← hAe]; exact Or.inr h
  have hS : va_S A s.heap s.heap [] := va_S.rf
  have hP : va_P (dC, dI) classes (WS_M_isCompany cI cL cZ h0 a_currency a_sort a_closing a_average a_held a_sum a_told a_left a_step a_outside a_item v_thrown v_companies v_accounts v_done v_items) s.heap := hP
  have hl := lv_entry ([.ref h0, .int p0]) (n := 2) (Nat.le_of_ble_eq_true rfl)
  rw [lg_entry_eq]
  generalize (lg_sl ([.ref h0, .int p0]) ++ List.replicate (2 - (lg_sl ([.ref h0, .int p0])).length) Slot.unset).toArray = ls at hl ⊢
  have hl : lv_has ls 2 [(0, .ref h0), (1, .int p0)] := hl
  unfold wp_M_isCompany at hw
  refine (show ∀ (H : Heap) (locs : List Loc), va_P (dC, dI) classes (WS_M_isCompany cI cL cZ h0 a_currency a_sort a_closing a_average a_held a_sum a_told a_left a_step a_outside a_item v_thrown v_companies v_accounts v_done v_items) H → va_S A s.heap H locs → W p l e (headSpec ws_M_isCompany rm_M_isCompany).room s m ([.ref h0, .int p0] : List Value).toArray below meth c H locs 0 0 (MQ below (QC_M_isCompany dC dI cI cL cZ A h0 a_currency a_sort a_closing a_average a_held a_sum a_told a_left a_step a_outside a_item v_thrown v_companies v_accounts v_done v_items post) ([.ref h0, .int p0] : List Value).toArray s 0 0 A) (F0 m 0 ls []) from ?_) _ _ hP hS
  intro H locs hP hS
  refine lv_iload_n hx hb d_M_isCompany_0 rfl (lv_at hl 1 rfl) ?_
  refine lv_if_lt (tgt := 16) hx hb d_M_isCompany_1 rfl (fun hc => ?_) (fun hc => ?_)
  ·
    have hw := hw.1 hc
    refine lv_iconst (v := 0) hx hb d_M_isCompany_16 (by decide) ?_
    exact W.zret (v := 0) hx hb hr (by decide) (fun t ht hW => ⟨⟨0, (), rfl, hw, ⟨by rw [ht]; exact hP, hD⟩⟩, hS.F ht⟩) hS.2.2 d_M_isCompany_17
  ·
    have hw := hw.2 hc
    refine lv_iload_n hx hb d_M_isCompany_4 rfl (lv_at hl 1 rfl) ?_
    refine lv_aload_n hx hb d_M_isCompany_5 rfl (lv_at hl 0 rfl) ?_
    refine va_get (D := (dC, dI)) (ci := 3) (v := .int v_companies) (C := R_M) (T := F_M) (N := 16) hx hb hts (kx_in in_M) hown hK hP 0 rfl rfl 1 (by decide) (hts _ (kx_w iw_476)) (fun _ h9 => h9) rfl d_M_isCompany_6 ?_
    refine lv_icmp_ge (tgt := 16) hx hb d_M_isCompany_9 rfl (fun hc => ?_) (fun hc => ?_)
    ·
      have hw := hw.1 hc
      refine lv_iconst (v := 0) hx hb d_M_isCompany_16 (by decide) ?_
      exact W.zret (v := 0) hx hb hr (by decide) (fun t ht hW => ⟨⟨0, (), rfl, hw, ⟨by rw [ht]; exact hP, hD⟩⟩, hS.F ht⟩) hS.2.2 d_M_isCompany_17
    ·
      have hw := hw.2 hc
      refine lv_iconst (v := 1) hx hb d_M_isCompany_12 (by decide) ?_
      refine lv_goto (tgt := 17) hx hb d_M_isCompany_13 rfl ?_
      exact W.zret (v := 1) hx hb hr (by decide) (fun t ht hW => ⟨⟨1, (), rfl, hw, ⟨by rw [ht]; exact hP, hD⟩⟩, hS.F ht⟩) hS.2.2 d_M_isCompany_17
/-! ConsolidationDeskModel.isAccount(I)Z -/
abbrev y_M_isAccount : MethodName := ⟨"ConsolidationDeskModel", "isAccount", "(I)Z"⟩
theorem d_M_isAccount_0 : decode prog_5_method_4_code 0 = .ok (.iload_n 1, 1) := by decide +kernel
theorem d_M_isAccount_1 : decode prog_5_method_4_code 1 = .ok (.ifCond .lt 15, 3) := by decide +kernel
theorem d_M_isAccount_4 : decode prog_5_method_4_code 4 = .ok (.iload_n 1, 1) := by decide +kernel
theorem d_M_isAccount_5 : decode prog_5_method_4_code 5 = .ok (.aload_n 0, 1) := by decide +kernel
theorem d_M_isAccount_6 : decode prog_5_method_4_code 6 = .ok (.getfield 52, 3) := by decide +kernel
theorem d_M_isAccount_9 : decode prog_5_method_4_code 9 = .ok (.if_icmp .ge 7, 3) := by decide +kernel
theorem d_M_isAccount_12 : decode prog_5_method_4_code 12 = .ok (.iconst 1, 1) := by decide +kernel
theorem d_M_isAccount_13 : decode prog_5_method_4_code 13 = .ok (.goto 4, 3) := by decide +kernel
theorem d_M_isAccount_16 : decode prog_5_method_4_code 16 = .ok (.iconst 0, 1) := by decide +kernel
theorem d_M_isAccount_17 : decode prog_5_method_4_code 17 = .ok (.ireturn, 1) := by decide +kernel
abbrev WS_M_isAccount (cI cL cZ : ClassId)  (h0 a_currency a_sort a_closing a_average a_held a_sum a_told a_left a_step a_outside a_item : Nat) (v_thrown : Int32) (v_companies : Int32) (v_accounts : Int32) (v_done : Int32) (v_items : Int32) : va_W := [(h0, .inr (3, [.int v_thrown, .int v_companies, .int v_accounts, .ref a_currency, .ref a_sort, .ref a_closing, .ref a_average, .ref a_held, .ref a_sum, .ref a_told, .int v_done, .ref a_left, .ref a_step, .ref a_outside, .int v_items, .ref a_item]))]
def wp_M_isAccount  (p0 : Int32) (v_accounts : Int32) (post : Int32 → Unit → Prop) : Prop := ((p0 < 0 → post 0 ()) ∧ (¬ p0 < 0 → ((v_accounts ≤ p0 → post 0 ()) ∧ (¬ v_accounts ≤ p0 → post 1 ()))))
abbrev ws_M_isAccount : List Cond := .code y_M_isAccount prog_5_method_4_code 2 (some .boolean) :: kxW
abbrev rm_M_isAccount : Room := { frames := 0, cells := 0, slots := 0, locals := 0 }
abbrev QC_M_isAccount (dC : Nat → ClassId) (dI : Nat → Nat → Nat) (cI cL cZ : ClassId) (A : Nat → Prop)  (h0 a_currency a_sort a_closing a_average a_held a_sum a_told a_left a_step a_outside a_item : Nat) (v_thrown : Int32) (v_companies : Int32) (v_accounts : Int32) (v_done : Int32) (v_items : Int32) (post : Int32 → Unit → Prop) : Array Value → State → Outcome → State → Prop := va_Qi post (fun (u : Unit) t => kx_B (dC, dI) classes A (WS_M_isAccount cI cL cZ h0 a_currency a_sort a_closing a_average a_held a_sum a_told a_left a_step a_outside a_item v_thrown v_companies v_accounts v_done v_items) t) A
set_option maxHeartbeats 4000000 in
set_option maxRecDepth 100000 in
theorem c_M_isAccount (l : Launch) (dC : Nat → ClassId) (dI : Nat → Nat → Nat) (cI cL cZ : ClassId)  (h0 a_currency a_sort a_closing a_average a_held a_sum a_told a_left a_step a_outside a_item : Nat) (v_thrown : Int32) (v_companies : Int32) (v_accounts : Int32) (v_done : Int32) (v_items : Int32) (sz : Nat) (p0 : Int32) {post : Int32 → Unit → Prop} (hw : wp_M_isAccount p0 v_accounts post) : Met l y_M_isAccount ws_M_isAccount rm_M_isAccount (kx_Pc (dC, dI) classes (kx_T cI cL cZ) (WS_M_isAccount cI cL cZ h0 a_currency a_sort a_closing a_average a_held a_sum a_told a_left a_step a_outside a_item v_thrown v_companies v_accounts v_done v_items) sz [.ref h0, .int p0]) (QC_M_isAccount dC dI cI cL cZ (va_A (WS_M_isAccount cI cL cZ h0 a_currency a_sort a_closing a_average a_held a_sum a_told a_left a_step a_outside a_item v_thrown v_companies v_accounts v_done v_items) sz) h0 a_currency a_sort a_closing a_average a_held a_sum a_told a_left a_step a_outside a_item v_thrown v_companies v_accounts v_done v_items post) 0 0 (va_A (WS_M_isAccount cI cL cZ h0 a_currency a_sort a_closing a_average a_held a_sum a_told a_left a_step a_outside a_item v_thrown v_companies v_accounts v_done v_items) sz) := by
  refine Met.ofW (cc := prog_5_method_4_code) (maxL := 2) (ret := (some .boolean)) (by decide) rfl ?_
  intro p e s m args below meth c s₁ B hml hv
  obtain ⟨rfl, hsz, hP, hK, hD0, hN⟩ := hv
  have hx := B.exec
  have hb := B.bytes
  have hr := B.returns
  have hts := atoms_spec (ws := ws_M_isAccount) B.pre
  have hown : s.vm.findClass R_M = some m.cls := findClass_of_methodNamed B.named
  have hlocks := B.notSynchronized
  subst hsz
  have hD := hD0.self (sz := s.heap.size)
  generalize hAe : va_A (WS_M_isAccount cI cL cZ h0 a_currency a_sort a_closing a_average a_held a_sum a_told a_left a_step a_outside a_item v_thrown v_companies v_accounts v_done v_items) s.heap.size = A at hD ⊢
  have hA : ∀ q : Nat, s.heap.size ≤ q → A q := fun q h => by rw [← hAe]; exact Or.inr h
  have hS : va_S A s.heap s.heap [] := va_S.rf
  have hP : va_P (dC, dI) classes (WS_M_isAccount cI cL cZ h0 a_currency a_sort a_closing a_average a_held a_sum a_told a_left a_step a_outside a_item v_thrown v_companies v_accounts v_done v_items) s.heap := hP
  have hl := lv_entry ([.ref h0, .int p0]) (n := 2) (Nat.le_of_ble_eq_true rfl)
  rw [lg_entry_eq]
  generalize (lg_sl ([.ref h0, .int p0]) ++ List.replicate (2 - (lg_sl ([.ref h0, .int p0])).length) Slot.unset).toArray = ls at hl ⊢
  have hl : lv_has ls 2 [(0, .ref h0), (1, .int p0)] := hl
  unfold wp_M_isAccount at hw
  refine (show ∀ (H : Heap) (locs : List Loc), va_P (dC, dI) classes (WS_M_isAccount cI cL cZ h0 a_currency a_sort a_closing a_average a_held a_sum a_told a_left a_step a_outside a_item v_thrown v_companies v_accounts v_done v_items) H → va_S A s.heap H locs → W p l e (headSpec ws_M_isAccount rm_M_isAccount).room s m ([.ref h0, .int p0] : List Value).toArray below meth c H locs 0 0 (MQ below (QC_M_isAccount dC dI cI cL cZ A h0 a_currency a_sort a_closing a_average a_held a_sum a_told a_left a_step a_outside a_item v_thrown v_companies v_accounts v_done v_items post) ([.ref h0, .int p0] : List Value).toArray s 0 0 A) (F0 m 0 ls []) from ?_) _ _ hP hS
  intro H locs hP hS
  refine lv_iload_n hx hb d_M_isAccount_0 rfl (lv_at hl 1 rfl) ?_
  refine lv_if_lt (tgt := 16) hx hb d_M_isAccount_1 rfl (fun hc => ?_) (fun hc => ?_)
  ·
    have hw := hw.1 hc
    refine lv_iconst (v := 0) hx hb d_M_isAccount_16 (by decide) ?_
    exact W.zret (v := 0) hx hb hr (by decide) (fun t ht hW => ⟨⟨0, (), rfl, hw, ⟨by rw [ht]; exact hP, hD⟩⟩, hS.F ht⟩) hS.2.2 d_M_isAccount_17
  ·
    have hw := hw.2 hc
    refine lv_iload_n hx hb d_M_isAccount_4 rfl (lv_at hl 1 rfl) ?_
    refine lv_aload_n hx hb d_M_isAccount_5 rfl (lv_at hl 0 rfl) ?_
    refine va_get (D := (dC, dI)) (ci := 3) (v := .int v_accounts) (C := R_M) (T := F_M) (N := 16) hx hb hts (kx_in in_M) hown hK hP 0 rfl rfl 2 (by decide) (hts _ (kx_w iw_477)) (fun _ h9 => h9) rfl d_M_isAccount_6 ?_
    refine lv_icmp_ge (tgt := 16) hx hb d_M_isAccount_9 rfl (fun hc => ?_) (fun hc => ?_)
    ·
      have hw := hw.1 hc
      refine lv_iconst (v := 0) hx hb d_M_isAccount_16 (by decide) ?_
      exact W.zret (v := 0) hx hb hr (by decide) (fun t ht hW => ⟨⟨0, (), rfl, hw, ⟨by rw [ht]; exact hP, hD⟩⟩, hS.F ht⟩) hS.2.2 d_M_isAccount_17
    ·
      have hw := hw.2 hc
      refine lv_iconst (v := 1) hx hb d_M_isAccount_12 (by decide) ?_
      refine lv_goto (tgt := 17) hx hb d_M_isAccount_13 rfl ?_
      exact W.zret (v := 1) hx hb hr (by decide) (fun t ht hW => ⟨⟨1, (), rfl, hw, ⟨by rw [ht]; exact hP, hD⟩⟩, hS.F ht⟩) hS.2.2 d_M_isAccount_17
/-! ConsolidationDeskModel.cell(III)I -/
abbrev y_M_cell : MethodName := ⟨"ConsolidationDeskModel", "cell", "(III)I"⟩
theorem d_M_cell_0 : decode prog_5_method_5_code 0 = .ok (.sipush 156, 3) := by decide +kernel
theorem d_M_cell_3 : decode prog_5_method_5_code 3 = .ok (.iload_n 0, 1) := by decide +kernel
theorem d_M_cell_4 : decode prog_5_method_5_code 4 = .ok (.imul, 1) := by decide +kernel
theorem d_M_cell_5 : decode prog_5_method_5_code 5 = .ok (.bipush 13, 2) := by decide +kernel
theorem d_M_cell_7 : decode prog_5_method_5_code 7 = .ok (.iload_n 1, 1) := by decide +kernel
theorem d_M_cell_8 : decode prog_5_method_5_code 8 = .ok (.imul, 1) := by decide +kernel
theorem d_M_cell_9 : decode prog_5_method_5_code 9 = .ok (.iadd, 1) := by decide +kernel
theorem d_M_cell_10 : decode prog_5_method_5_code 10 = .ok (.iload_n 2, 1) := by decide +kernel
theorem d_M_cell_11 : decode prog_5_method_5_code 11 = .ok (.iadd, 1) := by decide +kernel
theorem d_M_cell_12 : decode prog_5_method_5_code 12 = .ok (.iconst 1, 1) := by decide +kernel
theorem d_M_cell_13 : decode prog_5_method_5_code 13 = .ok (.iadd, 1) := by decide +kernel
theorem d_M_cell_14 : decode prog_5_method_5_code 14 = .ok (.ireturn, 1) := by decide +kernel
abbrev WS_M_cell (cI cL cZ : ClassId)    : va_W := []
def wp_M_cell  (p0 : Int32) (p1 : Int32) (p2 : Int32)  (post : Int32 → Unit → Prop) : Prop := post ((((156 * p0) + (13 * p1)) + p2) + 1) ()
abbrev ws_M_cell : List Cond := .code y_M_cell prog_5_method_5_code 3 (some .int) :: kxW
abbrev rm_M_cell : Room := { frames := 0, cells := 0, slots := 0, locals := 0 }
abbrev QC_M_cell (dC : Nat → ClassId) (dI : Nat → Nat → Nat) (cI cL cZ : ClassId) (A : Nat → Prop)    (post : Int32 → Unit → Prop) : Array Value → State → Outcome → State → Prop := va_Qi post (fun (u : Unit) t => kx_B (dC, dI) classes A (WS_M_cell cI cL cZ ) t) A
set_option maxHeartbeats 4000000 in
set_option maxRecDepth 100000 in
theorem c_M_cell (l : Launch) (dC : Nat → ClassId) (dI : Nat → Nat → Nat) (cI cL cZ : ClassId)    (sz : Nat) (p0 : Int32) (p1 : Int32) (p2 : Int32) {post : Int32 → Unit → Prop} (hw : wp_M_cell p0 p1 p2 post) : Met l y_M_cell ws_M_cell rm_M_cell (kx_Pc (dC, dI) classes (kx_T cI cL cZ) (WS_M_cell cI cL cZ ) sz [.int p0, .int p1, .int p2]) (QC_M_cell dC dI cI cL cZ (va_A (WS_M_cell cI cL cZ ) sz)  post) 0 0 (va_A (WS_M_cell cI cL cZ ) sz) := by
  refine Met.ofW (cc := prog_5_method_5_code) (maxL := 3) (ret := (some .int)) (by decide) rfl ?_
  intro p e s m args below meth c s₁ B hml hv
  obtain ⟨rfl, hsz, hP, hK, hD0, hN⟩ := hv
  have hx := B.exec
  have hb := B.bytes
  have hr := B.returns
  have hts := atoms_spec (ws := ws_M_cell) B.pre
  have hown : s.vm.findClass R_M = some m.cls := findClass_of_methodNamed B.named
  have hlocks := B.notSynchronized
  subst hsz
  have hD := hD0.self (sz := s.heap.size)
  generalize hAe : va_A (WS_M_cell cI cL cZ ) s.heap.size = A at hD ⊢
  have hA : ∀ q : Nat, s.heap.size ≤ q → A q := fun q h => by rw [← hAe]; exact Or.inr h
  have hS : va_S A s.heap s.heap [] := va_S.rf
  have hP : va_P (dC, dI) classes (WS_M_cell cI cL cZ ) s.heap := hP
  have hl := lv_entry ([.int p0, .int p1, .int p2]) (n := 3) (Nat.le_of_ble_eq_true rfl)
  rw [lg_entry_eq]
  generalize (lg_sl ([.int p0, .int p1, .int p2]) ++ List.replicate (3 - (lg_sl ([.int p0, .int p1, .int p2])).length) Slot.unset).toArray = ls at hl ⊢
  have hl : lv_has ls 3 [(0, .int p0), (1, .int p1), (2, .int p2)] := hl
  unfold wp_M_cell at hw
  refine (show ∀ (H : Heap) (locs : List Loc), va_P (dC, dI) classes (WS_M_cell cI cL cZ ) H → va_S A s.heap H locs → W p l e (headSpec ws_M_cell rm_M_cell).room s m ([.int p0, .int p1, .int p2] : List Value).toArray below meth c H locs 0 0 (MQ below (QC_M_cell dC dI cI cL cZ A post) ([.int p0, .int p1, .int p2] : List Value).toArray s 0 0 A) (F0 m 0 ls []) from ?_) _ _ hP hS
  intro H locs hP hS
  refine lv_sipush (v := 156) hx hb d_M_cell_0 (by decide) ?_
  refine lv_iload_n hx hb d_M_cell_3 rfl (lv_at hl 0 rfl) ?_
  refine lv_imul hx hb d_M_cell_4 ?_
  refine lv_bipush (v := 13) hx hb d_M_cell_5 (by decide) ?_
  refine lv_iload_n hx hb d_M_cell_7 rfl (lv_at hl 1 rfl) ?_
  refine lv_imul hx hb d_M_cell_8 ?_
  refine lv_iadd hx hb d_M_cell_9 ?_
  refine lv_iload_n hx hb d_M_cell_10 rfl (lv_at hl 2 rfl) ?_
  refine lv_iadd hx hb d_M_cell_11 ?_
  refine lv_iconst (v := 1) hx hb d_M_cell_12 (by decide) ?_
  refine lv_iadd hx hb d_M_cell_13 ?_
  exact W.iret (v := ((((156 * p0) + (13 * p1)) + p2) + 1)) hx hb hr (fun t ht hW => ⟨⟨((((156 * p0) + (13 * p1)) + p2) + 1), (), rfl, hw, ⟨by rw [ht]; exact hP, hD⟩⟩, hS.F ht⟩) hS.2.2 d_M_cell_14
/-! ConsolidationDeskModel.size(J)J -/
abbrev y_M_size : MethodName := ⟨"ConsolidationDeskModel", "size", "(J)J"⟩
theorem d_M_size_0 : decode prog_5_method_6_code 0 = .ok (.lload_n 0, 1) := by decide +kernel
theorem d_M_size_1 : decode prog_5_method_6_code 1 = .ok (.lconst 0, 1) := by decide +kernel
theorem d_M_size_2 : decode prog_5_method_6_code 2 = .ok (.lcmp, 1) := by decide +kernel
theorem d_M_size_3 : decode prog_5_method_6_code 3 = .ok (.ifCond .ge 8, 3) := by decide +kernel
theorem d_M_size_6 : decode prog_5_method_6_code 6 = .ok (.lload_n 0, 1) := by decide +kernel
theorem d_M_size_7 : decode prog_5_method_6_code 7 = .ok (.lneg, 1) := by decide +kernel
theorem d_M_size_8 : decode prog_5_method_6_code 8 = .ok (.goto 4, 3) := by decide +kernel
theorem d_M_size_11 : decode prog_5_method_6_code 11 = .ok (.lload_n 0, 1) := by decide +kernel
theorem d_M_size_12 : decode prog_5_method_6_code 12 = .ok (.lreturn, 1) := by decide +kernel
abbrev WS_M_size (cI cL cZ : ClassId)    : va_W := []
def wp_M_size  (p0 : Int64)  (post : Int64 → Unit → Prop) : Prop := ((0 ≤ p0 → post p0 ()) ∧ (¬ 0 ≤ p0 → post (-p0) ()))
abbrev ws_M_size : List Cond := .code y_M_size prog_5_method_6_code 2 (some .long) :: kxW
abbrev rm_M_size : Room := { frames := 0, cells := 0, slots := 0, locals := 0 }
abbrev QC_M_size (dC : Nat → ClassId) (dI : Nat → Nat → Nat) (cI cL cZ : ClassId) (A : Nat → Prop)    (post : Int64 → Unit → Prop) : Array Value → State → Outcome → State → Prop := va_Ql post (fun (u : Unit) t => kx_B (dC, dI) classes A (WS_M_size cI cL cZ ) t) A
set_option maxHeartbeats 4000000 in
set_option maxRecDepth 100000 in
theorem c_M_size (l : Launch) (dC : Nat → ClassId) (dI : Nat → Nat → Nat) (cI cL cZ : ClassId)    (sz : Nat) (p0 : Int64) {post : Int64 → Unit → Prop} (hw : wp_M_size p0 post) : Met l y_M_size ws_M_size rm_M_size (kx_Pc (dC, dI) classes (kx_T cI cL cZ) (WS_M_size cI cL cZ ) sz [.long p0]) (QC_M_size dC dI cI cL cZ (va_A (WS_M_size cI cL cZ ) sz)  post) 0 0 (va_A (WS_M_size cI cL cZ ) sz) := by
  refine Met.ofW (cc := prog_5_method_6_code) (maxL := 2) (ret := (some .long)) (by decide) rfl ?_
  intro p e s m args below meth c s₁ B hml hv
  obtain ⟨rfl, hsz, hP, hK, hD0, hN⟩ := hv
  have hx := B.exec
  have hb := B.bytes
  have hr := B.returns
  have hts := atoms_spec (ws := ws_M_size) B.pre
  have hown : s.vm.findClass R_M = some m.cls := findClass_of_methodNamed B.named
  have hlocks := B.notSynchronized
  subst hsz
  have hD := hD0.self (sz := s.heap.size)
  generalize hAe : va_A (WS_M_size cI cL cZ ) s.heap.size = A at hD ⊢
  have hA : ∀ q : Nat, s.heap.size ≤ q → A q := fun q h => by rw [← hAe]; exact Or.inr h
  have hS : va_S A s.heap s.heap [] := va_S.rf
  have hP : va_P (dC, dI) classes (WS_M_size cI cL cZ ) s.heap := hP
  have hl := lv_entry ([.long p0]) (n := 2) (Nat.le_of_ble_eq_true rfl)
  rw [lg_entry_eq]
  generalize (lg_sl ([.long p0]) ++ List.replicate (2 - (lg_sl ([.long p0])).length) Slot.unset).toArray = ls at hl ⊢
  have hl : lv_has ls 2 [(0, .long p0)] := hl
  unfold wp_M_size at hw
  refine (show ∀ (H : Heap) (locs : List Loc), va_P (dC, dI) classes (WS_M_size cI cL cZ ) H → va_S A s.heap H locs → W p l e (headSpec ws_M_size rm_M_size).room s m ([.long p0] : List Value).toArray below meth c H locs 0 0 (MQ below (QC_M_size dC dI cI cL cZ A post) ([.long p0] : List Value).toArray s 0 0 A) (F0 m 0 ls []) from ?_) _ _ hP hS
  intro H locs hP hS
  refine lv_lload_n hx hb d_M_size_0 rfl (lv_at hl 0 rfl) ?_
  refine lv_lconst (v := 0) hx hb d_M_size_1 (by decide) ?_
  refine W.lcmp hx hb d_M_size_2 ?_
  refine lv_if_ge (tgt := 11) hx hb d_M_size_3 rfl (fun hc => ?_) (fun hc => ?_)
  ·
    have hc := (lc_ge _ _).mp hc
    have hw := hw.1 hc
    refine lv_lload_n hx hb d_M_size_11 rfl (lv_at hl 0 rfl) ?_
    exact W.lret (v := p0) hx hb hr (fun t ht hW => ⟨⟨p0, (), rfl, hw, ⟨by rw [ht]; exact hP, hD⟩⟩, hS.F ht⟩) hS.2.2 d_M_size_12
  ·
    have hc := mt (lc_ge _ _).mpr hc
    have hw := hw.2 hc
    refine lv_lload_n hx hb d_M_size_6 rfl (lv_at hl 0 rfl) ?_
    refine lv_lneg hx hb d_M_size_7 ?_
    refine lv_goto (tgt := 12) hx hb d_M_size_8 rfl ?_
    exact W.lret (v := (-p0)) hx hb hr (fun t ht hW => ⟨⟨(-p0), (), rfl, hw, ⟨by rw [ht]; exact hP, hD⟩⟩, hS.F ht⟩) hS.2.2 d_M_size_12
/-! ConsolidationDeskModel.company(I)I -/
abbrev y_M_company : MethodName := ⟨"ConsolidationDeskModel", "company", "(I)I"⟩
theorem d_M_company_0 : decode prog_5_method_7_code 0 = .ok (.aload_n 0, 1) := by decide +kernel
theorem d_M_company_1 : decode prog_5_method_7_code 1 = .ok (.iconst 0, 1) := by decide +kernel
theorem d_M_company_2 : decode prog_5_method_7_code 2 = .ok (.putfield 49, 3) := by decide +kernel
theorem d_M_company_5 : decode prog_5_method_7_code 5 = .ok (.iload_n 1, 1) := by decide +kernel
theorem d_M_company_6 : decode prog_5_method_7_code 6 = .ok (.ifCond .lt 17, 3) := by decide +kernel
theorem d_M_company_9 : decode prog_5_method_7_code 9 = .ok (.iload_n 1, 1) := by decide +kernel
theorem d_M_company_10 : decode prog_5_method_7_code 10 = .ok (.iconst 3, 1) := by decide +kernel
theorem d_M_company_11 : decode prog_5_method_7_code 11 = .ok (.if_icmp .gt 12, 3) := by decide +kernel
theorem d_M_company_14 : decode prog_5_method_7_code 14 = .ok (.aload_n 0, 1) := by decide +kernel
theorem d_M_company_15 : decode prog_5_method_7_code 15 = .ok (.getfield 44, 3) := by decide +kernel
theorem d_M_company_18 : decode prog_5_method_7_code 18 = .ok (.bipush 12, 2) := by decide +kernel
theorem d_M_company_20 : decode prog_5_method_7_code 20 = .ok (.if_icmp .ne 5, 3) := by decide +kernel
theorem d_M_company_23 : decode prog_5_method_7_code 23 = .ok (.iconst (-1), 1) := by decide +kernel
theorem d_M_company_24 : decode prog_5_method_7_code 24 = .ok (.ireturn, 1) := by decide +kernel
theorem d_M_company_25 : decode prog_5_method_7_code 25 = .ok (.aload_n 0, 1) := by decide +kernel
theorem d_M_company_26 : decode prog_5_method_7_code 26 = .ok (.getfield 7, 3) := by decide +kernel
theorem d_M_company_29 : decode prog_5_method_7_code 29 = .ok (.aload_n 0, 1) := by decide +kernel
theorem d_M_company_30 : decode prog_5_method_7_code 30 = .ok (.getfield 44, 3) := by decide +kernel
theorem d_M_company_33 : decode prog_5_method_7_code 33 = .ok (.iload_n 1, 1) := by decide +kernel
theorem d_M_company_34 : decode prog_5_method_7_code 34 = .ok (.iastore, 1) := by decide +kernel
theorem d_M_company_35 : decode prog_5_method_7_code 35 = .ok (.aload_n 0, 1) := by decide +kernel
theorem d_M_company_36 : decode prog_5_method_7_code 36 = .ok (.dup, 1) := by decide +kernel
theorem d_M_company_37 : decode prog_5_method_7_code 37 = .ok (.getfield 44, 3) := by decide +kernel
theorem d_M_company_40 : decode prog_5_method_7_code 40 = .ok (.iconst 1, 1) := by decide +kernel
theorem d_M_company_41 : decode prog_5_method_7_code 41 = .ok (.iadd, 1) := by decide +kernel
theorem d_M_company_42 : decode prog_5_method_7_code 42 = .ok (.putfield 44, 3) := by decide +kernel
theorem d_M_company_45 : decode prog_5_method_7_code 45 = .ok (.aload_n 0, 1) := by decide +kernel
theorem d_M_company_46 : decode prog_5_method_7_code 46 = .ok (.getfield 44, 3) := by decide +kernel
theorem d_M_company_49 : decode prog_5_method_7_code 49 = .ok (.iconst 1, 1) := by decide +kernel
theorem d_M_company_50 : decode prog_5_method_7_code 50 = .ok (.isub, 1) := by decide +kernel
theorem d_M_company_51 : decode prog_5_method_7_code 51 = .ok (.ireturn, 1) := by decide +kernel
abbrev WS_M_company (cI cL cZ : ClassId)  (h0 a_currency a_sort a_closing a_average a_held a_sum a_told a_left a_step a_outside a_item : Nat) (v_thrown : Int32) (v_companies : Int32) (v_accounts : Int32) (v_done : Int32) (v_items : Int32) (v_currency : (Nat → Int32)) : va_W := [(h0, .inr (3, [.int v_thrown, .int v_companies, .int v_accounts, .ref a_currency, .ref a_sort, .ref a_closing, .ref a_average, .ref a_held, .ref a_sum, .ref a_told, .int v_done, .ref a_left, .ref a_step, .ref a_outside, .int v_items, .ref a_item])), (a_currency, .inl (cI, 12, .inl v_currency))]
def wp_M_company  (p0 : Int32) (v_thrown : Int32) (v_companies : Int32) (v_currency : (Nat → Int32)) (post : Int32 → (Int32 × Int32 × (Nat → Int32)) → Prop) : Prop := ((p0 < 0 → post (-1) (0, v_companies, v_currency)) ∧ (¬ p0 < 0 → ((3 < p0 → post (-1) (0, v_companies, v_currency)) ∧ (¬ 3 < p0 → ((¬ v_companies = 12 → (vp_in v_companies 12 ∧ post ((v_companies + 1) - 1) (0, (v_companies + 1), (upd v_currency v_companies.toNatClampNeg p0)))) ∧ (v_companies = 12 → post (-1) (0, v_companies, v_currency)))))))
abbrev ws_M_company : List Cond := .code y_M_company prog_5_method_7_code 2 (some .int) :: kxW
abbrev rm_M_company : Room := { frames := 0, cells := 0, slots := 0, locals := 0 }
abbrev QC_M_company (dC : Nat → ClassId) (dI : Nat → Nat → Nat) (cI cL cZ : ClassId) (A : Nat → Prop)  (h0 a_currency a_sort a_closing a_average a_held a_sum a_told a_left a_step a_outside a_item : Nat) (v_thrown : Int32) (v_companies : Int32) (v_accounts : Int32) (v_done : Int32) (v_items : Int32) (v_currency : (Nat → Int32)) (post : Int32 → (Int32 × Int32 × (Nat → Int32)) → Prop) : Array Value → State → Outcome → State → Prop := va_Qi post (fun (u : Int32 × Int32 × (Nat → Int32)) t => kx_B (dC, dI) classes A (WS_M_company cI cL cZ h0 a_currency a_sort a_closing a_average a_held a_sum a_told a_left a_step a_outside a_item u.1 u.2.1 v_accounts v_done v_items u.2.2) t) A
set_option maxHeartbeats 4000000 in
set_option maxRecDepth 100000 in
theorem c_M_company (l : Launch) (dC : Nat → ClassId) (dI : Nat → Nat → Nat) (cI cL cZ : ClassId)  (h0 a_currency a_sort a_closing a_average a_held a_sum a_told a_left a_step a_outside a_item : Nat) (v_thrown : Int32) (v_companies : Int32) (v_accounts : Int32) (v_done : Int32) (v_items : Int32) (v_currency : (Nat → Int32)) (sz : Nat) (p0 : Int32) {post : Int32 → (Int32 × Int32 × (Nat → Int32)) → Prop} (hw : wp_M_company p0 v_thrown v_companies v_currency post) : Met l y_M_company ws_M_company rm_M_company (kx_Pc (dC, dI) classes (kx_T cI cL cZ) (WS_M_company cI cL cZ h0 a_currency a_sort a_closing a_average a_held a_sum a_told a_left a_step a_outside a_item v_thrown v_companies v_accounts v_done v_items v_currency) sz [.ref h0, .int p0]) (QC_M_company dC dI cI cL cZ (va_A (WS_M_company cI cL cZ h0 a_currency a_sort a_closing a_average a_held a_sum a_told a_left a_step a_outside a_item v_thrown v_companies v_accounts v_done v_items v_currency) sz) h0 a_currency a_sort a_closing a_average a_held a_sum a_told a_left a_step a_outside a_item v_thrown v_companies v_accounts v_done v_items v_currency post) 0 0 (va_A (WS_M_company cI cL cZ h0 a_currency a_sort a_closing a_average a_held a_sum a_told a_left a_step a_outside a_item v_thrown v_companies v_accounts v_done v_items v_currency) sz) := by
  refine Met.ofW (cc := prog_5_method_7_code) (maxL := 2) (ret := (some .int)) (by decide) rfl ?_
  intro p e s m args below meth c s₁ B hml hv
  obtain ⟨rfl, hsz, hP, hK, hD0, hN⟩ := hv
  have hx := B.exec
  have hb := B.bytes
  have hr := B.returns
  have hts := atoms_spec (ws := ws_M_company) B.pre
  have hown : s.vm.findClass R_M = some m.cls := findClass_of_methodNamed B.named
  have hlocks := B.notSynchronized
  subst hsz
  have hD := hD0.self (sz := s.heap.size)
  generalize hAe : va_A (WS_M_company cI cL cZ h0 a_currency a_sort a_closing a_average a_held a_sum a_told a_left a_step a_outside a_item v_thrown v_companies v_accounts v_done v_items v_currency) s.heap.size = A at hD ⊢
  have hA : ∀ q : Nat, s.heap.size ≤ q → A q := fun q h => by rw [← hAe]; exact Or.inr h
  have hS : va_S A s.heap s.heap [] := va_S.rf
  have hP : va_P (dC, dI) classes (WS_M_company cI cL cZ h0 a_currency a_sort a_closing a_average a_held a_sum a_told a_left a_step a_outside a_item v_thrown v_companies v_accounts v_done v_items v_currency) s.heap := hP
  have hl := lv_entry ([.ref h0, .int p0]) (n := 2) (Nat.le_of_ble_eq_true rfl)
  rw [lg_entry_eq]
  generalize (lg_sl ([.ref h0, .int p0]) ++ List.replicate (2 - (lg_sl ([.ref h0, .int p0])).length) Slot.unset).toArray = ls at hl ⊢
  have hl : lv_has ls 2 [(0, .ref h0), (1, .int p0)] := hl
  unfold wp_M_company at hw
  refine (show ∀ (H : Heap) (locs : List Loc), va_P (dC, dI) classes (WS_M_company cI cL cZ h0 a_currency a_sort a_closing a_average a_held a_sum a_told a_left a_step a_outside a_item v_thrown v_companies v_accounts v_done v_items v_currency) H → va_S A s.heap H locs → W p l e (headSpec ws_M_company rm_M_company).room s m ([.ref h0, .int p0] : List Value).toArray below meth c H locs 0 0 (MQ below (QC_M_company dC dI cI cL cZ A h0 a_currency a_sort a_closing a_average a_held a_sum a_told a_left a_step a_outside a_item v_thrown v_companies v_accounts v_done v_items v_currency post) ([.ref h0, .int p0] : List Value).toArray s 0 0 A) (F0 m 0 ls []) from ?_) _ _ hP hS
  intro H locs hP hS
  refine lv_aload_n hx hb d_M_company_0 rfl (lv_at hl 0 rfl) ?_
  refine lv_iconst (v := 0) hx hb d_M_company_1 (by decide) ?_
  refine va_put (D := (dC, dI)) (ci := 3) (v := .int 0) (ty := .int) (C := R_M) (T := F_M) (N := 16) hx hb hts (kx_in in_M) t_M t_M_ok n_M hown hK hP hD hS 0 rfl rfl 0 (by decide) (hts _ (kx_w iw_475)) (fun _ h9 => h9) rfl (by decide +kernel) rfl rfl (Nat.le_of_ble_eq_true rfl) d_M_company_2 (fun H locs hP hD hS => ?_)
  have hP : va_P (dC, dI) classes (WS_M_company cI cL cZ h0 a_currency a_sort a_closing a_average a_held a_sum a_told a_left a_step a_outside a_item 0 v_companies v_accounts v_done v_items v_currency) H := hP
  have hD : va_D A (WS_M_company cI cL cZ h0 a_currency a_sort a_closing a_average a_held a_sum a_told a_left a_step a_outside a_item 0 v_companies v_accounts v_done v_items v_currency) := hD
  refine lv_iload_n hx hb d_M_company_5 rfl (lv_at hl 1 rfl) ?_
  refine lv_if_lt (tgt := 23) hx hb d_M_company_6 rfl (fun hc => ?_) (fun hc => ?_)
  ·
    have hw := hw.1 hc
    refine lv_iconst (v := (-1)) hx hb d_M_company_23 (by decide) ?_
    exact W.iret (v := (-1)) hx hb hr (fun t ht hW => ⟨⟨(-1), (0, v_companies, v_currency), rfl, hw, ⟨by rw [ht]; exact hP, hD⟩⟩, hS.F ht⟩) hS.2.2 d_M_company_24
  ·
    have hw := hw.2 hc
    refine lv_iload_n hx hb d_M_company_9 rfl (lv_at hl 1 rfl) ?_
    refine lv_iconst (v := 3) hx hb d_M_company_10 (by decide) ?_
    refine lv_icmp_gt (tgt := 23) hx hb d_M_company_11 rfl (fun hc => ?_) (fun hc => ?_)
    ·
      have hw := hw.1 hc
      refine lv_iconst (v := (-1)) hx hb d_M_company_23 (by decide) ?_
      exact W.iret (v := (-1)) hx hb hr (fun t ht hW => ⟨⟨(-1), (0, v_companies, v_currency), rfl, hw, ⟨by rw [ht]; exact hP, hD⟩⟩, hS.F ht⟩) hS.2.2 d_M_company_24
    ·
      have hw := hw.2 hc
      refine lv_aload_n hx hb d_M_company_14 rfl (lv_at hl 0 rfl) ?_
      refine va_get (D := (dC, dI)) (ci := 3) (v := .int v_companies) (C := R_M) (T := F_M) (N := 16) hx hb hts (kx_in in_M) hown hK hP 0 rfl rfl 1 (by decide) (hts _ (kx_w iw_476)) (fun _ h9 => h9) rfl d_M_company_15 ?_
      refine lv_bipush (v := 12) hx hb d_M_company_18 (by decide) ?_
      refine lv_icmp_ne (tgt := 25) hx hb d_M_company_20 rfl (fun hc => ?_) (fun hc => ?_)
      ·
        have hw := hw.1 hc
        refine lv_aload_n hx hb d_M_company_25 rfl (lv_at hl 0 rfl) ?_
        refine va_get (D := (dC, dI)) (ci := 3) (v := .ref a_currency) (C := R_M) (T := F_M) (N := 16) hx hb hts (kx_in in_M) hown hK hP 0 rfl rfl 3 (by decide) (hts _ (kx_w iw_478)) (fun _ h9 => h9) rfl d_M_company_26 ?_
        refine lv_aload_n hx hb d_M_company_29 rfl (lv_at hl 0 rfl) ?_
        refine va_get (D := (dC, dI)) (ci := 3) (v := .int v_companies) (C := R_M) (T := F_M) (N := 16) hx hb hts (kx_in in_M) hown hK hP 0 rfl rfl 1 (by decide) (hts _ (kx_w iw_476)) (fun _ h9 => h9) rfl d_M_company_30 ?_
        refine lv_iload_n hx hb d_M_company_33 rfl (lv_at hl 1 rfl) ?_
        obtain ⟨hi, hw⟩ := hw
        refine va_iast hx hb hK hP hD hS 1 0 rfl rfl hi d_M_company_34 (fun H locs hP hD hS => ?_)
        have hP : va_P (dC, dI) classes (WS_M_company cI cL cZ h0 a_currency a_sort a_closing a_average a_held a_sum a_told a_left a_step a_outside a_item 0 v_companies v_accounts v_done v_items (upd v_currency v_companies.toNatClampNeg p0)) H := hP
        have hD : va_D A (WS_M_company cI cL cZ h0 a_currency a_sort a_closing a_average a_held a_sum a_told a_left a_step a_outside a_item 0 v_companies v_accounts v_done v_items (upd v_currency v_companies.toNatClampNeg p0)) := hD
        refine lv_aload_n hx hb d_M_company_35 rfl (lv_at hl 0 rfl) ?_
        refine lv_dup hx hb d_M_company_36 rfl ?_
        refine va_get (D := (dC, dI)) (ci := 3) (v := .int v_companies) (C := R_M) (T := F_M) (N := 16) hx hb hts (kx_in in_M) hown hK hP 0 rfl rfl 1 (by decide) (hts _ (kx_w iw_476)) (fun _ h9 => h9) rfl d_M_company_37 ?_
        refine lv_iconst (v := 1) hx hb d_M_company_40 (by decide) ?_
        refine lv_iadd hx hb d_M_company_41 ?_
        refine va_put (D := (dC, dI)) (ci := 3) (v := .int (v_companies + 1)) (ty := .int) (C := R_M) (T := F_M) (N := 16) hx hb hts (kx_in in_M) t_M t_M_ok n_M hown hK hP hD hS 0 rfl rfl 1 (by decide) (hts _ (kx_w iw_476)) (fun _ h9 => h9) rfl (by decide +kernel) rfl rfl (Nat.le_of_ble_eq_true rfl) d_M_company_42 (fun H locs hP hD hS => ?_)
        have hP : va_P (dC, dI) classes (WS_M_company cI cL cZ h0 a_currency a_sort a_closing a_average a_held a_sum a_told a_left a_step a_outside a_item 0 (v_companies + 1) v_accounts v_done v_items (upd v_currency v_companies.toNatClampNeg p0)) H := hP
        have hD : va_D A (WS_M_company cI cL cZ h0 a_currency a_sort a_closing a_average a_held a_sum a_told a_left a_step a_outside a_item 0 (v_companies + 1) v_accounts v_done v_items (upd v_currency v_companies.toNatClampNeg p0)) := hD
        refine lv_aload_n hx hb d_M_company_45 rfl (lv_at hl 0 rfl) ?_
        refine va_get (D := (dC, dI)) (ci := 3) (v := .int (v_companies + 1)) (C := R_M) (T := F_M) (N := 16) hx hb hts (kx_in in_M) hown hK hP 0 rfl rfl 1 (by decide) (hts _ (kx_w iw_476)) (fun _ h9 => h9) rfl d_M_company_46 ?_
        refine lv_iconst (v := 1) hx hb d_M_company_49 (by decide) ?_
        refine lv_isub hx hb d_M_company_50 ?_
        exact W.iret (v := ((v_companies + 1) - 1)) hx hb hr (fun t ht hW => ⟨⟨((v_companies + 1) - 1), (0, (v_companies + 1), (upd v_currency v_companies.toNatClampNeg p0)), rfl, hw, ⟨by rw [ht]; exact hP, hD⟩⟩, hS.F ht⟩) hS.2.2 d_M_company_51
      ·
        have hw := hw.2 hc
        refine lv_iconst (v := (-1)) hx hb d_M_company_23 (by decide) ?_
        exact W.iret (v := (-1)) hx hb hr (fun t ht hW => ⟨⟨(-1), (0, v_companies, v_currency), rfl, hw, ⟨by rw [ht]; exact hP, hD⟩⟩, hS.F ht⟩) hS.2.2 d_M_company_24
/-! ConsolidationDeskModel.reserve()I -/
abbrev y_M_reserve : MethodName := ⟨"ConsolidationDeskModel", "reserve", "()I"⟩
theorem d_M_reserve_0 : decode prog_5_method_8_code 0 = .ok (.iconst 0, 1) := by decide +kernel
theorem d_M_reserve_1 : decode prog_5_method_8_code 1 = .ok (.istore_n 1, 1) := by decide +kernel
theorem d_M_reserve_2 : decode prog_5_method_8_code 2 = .ok (.iload_n 1, 1) := by decide +kernel
theorem d_M_reserve_3 : decode prog_5_method_8_code 3 = .ok (.aload_n 0, 1) := by decide +kernel
theorem d_M_reserve_4 : decode prog_5_method_8_code 4 = .ok (.getfield 52, 3) := by decide +kernel
theorem d_M_reserve_7 : decode prog_5_method_8_code 7 = .ok (.if_icmp .ge 21, 3) := by decide +kernel
theorem d_M_reserve_10 : decode prog_5_method_8_code 10 = .ok (.aload_n 0, 1) := by decide +kernel
theorem d_M_reserve_11 : decode prog_5_method_8_code 11 = .ok (.getfield 13, 3) := by decide +kernel
theorem d_M_reserve_14 : decode prog_5_method_8_code 14 = .ok (.iload_n 1, 1) := by decide +kernel
theorem d_M_reserve_15 : decode prog_5_method_8_code 15 = .ok (.iaload, 1) := by decide +kernel
theorem d_M_reserve_16 : decode prog_5_method_8_code 16 = .ok (.iconst 4, 1) := by decide +kernel
theorem d_M_reserve_17 : decode prog_5_method_8_code 17 = .ok (.if_icmp .ne 5, 3) := by decide +kernel
theorem d_M_reserve_20 : decode prog_5_method_8_code 20 = .ok (.iload_n 1, 1) := by decide +kernel
theorem d_M_reserve_21 : decode prog_5_method_8_code 21 = .ok (.ireturn, 1) := by decide +kernel
theorem d_M_reserve_22 : decode prog_5_method_8_code 22 = .ok (.iinc 1 1, 3) := by decide +kernel
theorem d_M_reserve_25 : decode prog_5_method_8_code 25 = .ok (.goto (-23), 3) := by decide +kernel
theorem d_M_reserve_28 : decode prog_5_method_8_code 28 = .ok (.iconst (-1), 1) := by decide +kernel
theorem d_M_reserve_29 : decode prog_5_method_8_code 29 = .ok (.ireturn, 1) := by decide +kernel
abbrev WS_M_reserve (cI cL cZ : ClassId)  (h0 a_currency a_sort a_closing a_average a_held a_sum a_told a_left a_step a_outside a_item : Nat) (v_thrown : Int32) (v_companies : Int32) (v_accounts : Int32) (v_done : Int32) (v_items : Int32) (v_sort : (Nat → Int32)) : va_W := [(h0, .inr (3, [.int v_thrown, .int v_companies, .int v_accounts, .ref a_currency, .ref a_sort, .ref a_closing, .ref a_average, .ref a_held, .ref a_sum, .ref a_told, .int v_done, .ref a_left, .ref a_step, .ref a_outside, .int v_items, .ref a_item])), (a_sort, .inl (cI, 12, .inl v_sort))]
def wp_M_reserve   (v_accounts : Int32) (v_sort : (Nat → Int32)) (post : Int32 → Unit → Prop) : Prop := (∃ (I2 : Int32 → Prop) (μ2 : Int32 → Nat), I2 0 ∧ ∀ (l1_2 : Int32), I2 l1_2 → ((v_accounts ≤ l1_2 → post (-1) ()) ∧ (¬ v_accounts ≤ l1_2 → (vp_in l1_2 12 ∧ ((¬ (v_sort l1_2.toNatClampNeg) = 4 → I2 (l1_2 + 1) ∧ μ2 (l1_2 + 1) < μ2 l1_2) ∧ ((v_sort l1_2.toNatClampNeg) = 4 → post l1_2 ()))))))
abbrev ws_M_reserve : List Cond := .code y_M_reserve prog_5_method_8_code 2 (some .int) :: kxW
abbrev rm_M_reserve : Room := { frames := 0, cells := 0, slots := 0, locals := 0 }
abbrev QC_M_reserve (dC : Nat → ClassId) (dI : Nat → Nat → Nat) (cI cL cZ : ClassId) (A : Nat → Prop)  (h0 a_currency a_sort a_closing a_average a_held a_sum a_told a_left a_step a_outside a_item : Nat) (v_thrown : Int32) (v_companies : Int32) (v_accounts : Int32) (v_done : Int32) (v_items : Int32) (v_sort : (Nat → Int32)) (post : Int32 → Unit → Prop) : Array Value → State → Outcome → State → Prop := va_Qi post (fun (u : Unit) t => kx_B (dC, dI) classes A (WS_M_reserve cI cL cZ h0 a_currency a_sort a_closing a_average a_held a_sum a_told a_left a_step a_outside a_item v_thrown v_companies v_accounts v_done v_items v_sort) t) A
set_option maxHeartbeats 4000000 in
set_option maxRecDepth 100000 in
theorem c_M_reserve (l : Launch) (dC : Nat → ClassId) (dI : Nat → Nat → Nat) (cI cL cZ : ClassId)  (h0 a_currency a_sort a_closing a_average a_held a_sum a_told a_left a_step a_outside a_item : Nat) (v_thrown : Int32) (v_companies : Int32) (v_accounts : Int32) (v_done : Int32) (v_items : Int32) (v_sort : (Nat → Int32)) (sz : Nat)  {post : Int32 → Unit → Prop} (hw : wp_M_reserve v_accounts v_sort post) : Met l y_M_reserve ws_M_reserve rm_M_reserve (kx_Pc (dC, dI) classes (kx_T cI cL cZ) (WS_M_reserve cI cL cZ h0 a_currency a_sort a_closing a_average a_held a_sum a_told a_left a_step a_outside a_item v_thrown v_companies v_accounts v_done v_items v_sort) sz [.ref h0]) (QC_M_reserve dC dI cI cL cZ (va_A (WS_M_reserve cI cL cZ h0 a_currency a_sort a_closing a_average a_held a_sum a_told a_left a_step a_outside a_item v_thrown v_companies v_accounts v_done v_items v_sort) sz) h0 a_currency a_sort a_closing a_average a_held a_sum a_told a_left a_step a_outside a_item v_thrown v_companies v_accounts v_done v_items v_sort post) 0 0 (va_A (WS_M_reserve cI cL cZ h0 a_currency a_sort a_closing a_average a_held a_sum a_told a_left a_step a_outside a_item v_thrown v_companies v_accounts v_done v_items v_sort) sz) := by
  refine Met.ofW (cc := prog_5_method_8_code) (maxL := 2) (ret := (some .int)) (by decide) rfl ?_
  intro p e s m args below meth c s₁ B hml hv
  obtain ⟨rfl, hsz, hP, hK, hD0, hN⟩ := hv
  have hx := B.exec
  have hb := B.bytes
  have hr := B.returns
  have hts := atoms_spec (ws := ws_M_reserve) B.pre
  have hown : s.vm.findClass R_M = some m.cls := findClass_of_methodNamed B.named
  have hlocks := B.notSynchronized
  subst hsz
  have hD := hD0.self (sz := s.heap.size)
  generalize hAe : va_A (WS_M_reserve cI cL cZ h0 a_currency a_sort a_closing a_average a_held a_sum a_told a_left a_step a_outside a_item v_thrown v_companies v_accounts v_done v_items v_sort) s.heap.size = A at hD ⊢
  have hA : ∀ q : Nat, s.heap.size ≤ q → A q := fun q h => by rw [← hAe]; exact Or.inr h
  have hS : va_S A s.heap s.heap [] := va_S.rf
  have hP : va_P (dC, dI) classes (WS_M_reserve cI cL cZ h0 a_currency a_sort a_closing a_average a_held a_sum a_told a_left a_step a_outside a_item v_thrown v_companies v_accounts v_done v_items v_sort) s.heap := hP
  have hl := lv_entry ([.ref h0]) (n := 2) (Nat.le_of_ble_eq_true rfl)
  rw [lg_entry_eq]
  generalize (lg_sl ([.ref h0]) ++ List.replicate (2 - (lg_sl ([.ref h0])).length) Slot.unset).toArray = ls at hl ⊢
  have hl : lv_has ls 2 [(0, .ref h0)] := hl
  unfold wp_M_reserve at hw
  refine (show ∀ (H : Heap) (locs : List Loc), va_P (dC, dI) classes (WS_M_reserve cI cL cZ h0 a_currency a_sort a_closing a_average a_held a_sum a_told a_left a_step a_outside a_item v_thrown v_companies v_accounts v_done v_items v_sort) H → va_S A s.heap H locs → W p l e (headSpec ws_M_reserve rm_M_reserve).room s m ([.ref h0] : List Value).toArray below meth c H locs 0 0 (MQ below (QC_M_reserve dC dI cI cL cZ A h0 a_currency a_sort a_closing a_average a_held a_sum a_told a_left a_step a_outside a_item v_thrown v_companies v_accounts v_done v_items v_sort post) ([.ref h0] : List Value).toArray s 0 0 A) (F0 m 0 ls []) from ?_) _ _ hP hS
  intro H locs hP hS
  refine lv_iconst (v := 0) hx hb d_M_reserve_0 (by decide) ?_
  refine lv_istore_n (lv' := [(1, .int 0), (0, .ref h0)]) hx hb d_M_reserve_1 rfl hl (by decide) rfl (fun ls hl => ?_)
  have hl := lv_sub hl [1, 0] rfl
  obtain ⟨I2, μ2, hi2, hs2⟩ := hw
  have L2 : ∀ (n : Nat) (l1_2 : Int32) (H : Heap) (locs : List Loc) (ls : Array Slot), μ2 l1_2 < n → I2 l1_2 → lv_has ls 2 [(0, .ref h0), (1, .int l1_2)] → va_P (dC, dI) classes (WS_M_reserve cI cL cZ h0 a_currency a_sort a_closing a_average a_held a_sum a_told a_left a_step a_outside a_item v_thrown v_companies v_accounts v_done v_items v_sort) H → va_D A (WS_M_reserve cI cL cZ h0 a_currency a_sort a_closing a_average a_held a_sum a_told a_left a_step a_outside a_item v_thrown v_companies v_accounts v_done v_items v_sort) → va_S A s.heap H locs → W p l e (headSpec ws_M_reserve rm_M_reserve).room s m ([.ref h0] : List Value).toArray below meth c H locs 0 0 (MQ below (QC_M_reserve dC dI cI cL cZ A h0 a_currency a_sort a_closing a_average a_held a_sum a_told a_left a_step a_outside a_item v_thrown v_companies v_accounts v_done v_items v_sort post) ([.ref h0] : List Value).toArray s 0 0 A) (F0 m 2 ls []) := by
    intro n
    induction n with
    | zero => intro l1_2 H locs ls hn; exact absurd hn (Nat.not_lt_zero _)
    | succ n ih2 =>
      intro l1_2 H locs ls hn2 hI hl hP hD hS
      have hw := hs2 l1_2 hI
      refine lv_iload_n hx hb d_M_reserve_2 rfl (lv_at hl 1 rfl) ?_
      refine lv_aload_n hx hb d_M_reserve_3 rfl (lv_at hl 0 rfl) ?_
      refine va_get (D := (dC, dI)) (ci := 3) (v := .int v_accounts) (C := R_M) (T := F_M) (N := 16) hx hb hts (kx_in in_M) hown hK hP 0 rfl rfl 2 (by decide) (hts _ (kx_w iw_477)) (fun _ h9 => h9) rfl d_M_reserve_4 ?_
      refine lv_icmp_ge (tgt := 28) hx hb d_M_reserve_7 rfl (fun hc => ?_) (fun hc => ?_)
      ·
        have hw := hw.1 hc
        refine lv_iconst (v := (-1)) hx hb d_M_reserve_28 (by decide) ?_
        exact W.iret (v := (-1)) hx hb hr (fun t ht hW => ⟨⟨(-1), (), rfl, hw, ⟨by rw [ht]; exact hP, hD⟩⟩, hS.F ht⟩) hS.2.2 d_M_reserve_29
      ·
        have hw := hw.2 hc
        refine lv_aload_n hx hb d_M_reserve_10 rfl (lv_at hl 0 rfl) ?_
        refine va_get (D := (dC, dI)) (ci := 3) (v := .ref a_sort) (C := R_M) (T := F_M) (N := 16) hx hb hts (kx_in in_M) hown hK hP 0 rfl rfl 4 (by decide) (hts _ (kx_w iw_479)) (fun _ h9 => h9) rfl d_M_reserve_11 ?_
        refine lv_iload_n hx hb d_M_reserve_14 rfl (lv_at hl 1 rfl) ?_
        obtain ⟨hi, hw⟩ := hw
        refine va_iald hx hb hK hP 1 0 rfl rfl hi d_M_reserve_15 ?_
        refine lv_iconst (v := 4) hx hb d_M_reserve_16 (by decide) ?_
        refine lv_icmp_ne (tgt := 22) hx hb d_M_reserve_17 rfl (fun hc => ?_) (fun hc => ?_)
        ·
          have hw := hw.1 hc
          refine lv_iinc (v := (l1_2 + 1)) (lv' := [(1, .int (l1_2 + 1)), (0, .ref h0)]) hx hb d_M_reserve_22 hl (k := 1) rfl rfl (by decide) rfl (fun ls hl => ?_)
          refine lv_goto (tgt := 2) hx hb d_M_reserve_25 rfl ?_
          have hl := lv_sub hl [1, 0] rfl
          exact ih2 (l1_2 + 1) _ _ _ (Nat.lt_of_lt_of_le hw.2 (Nat.le_of_lt_succ hn2)) hw.1 hl hP hD hS
        ·
          have hw := hw.2 hc
          refine lv_iload_n hx hb d_M_reserve_20 rfl (lv_at hl 1 rfl) ?_
          exact W.iret (v := l1_2) hx hb hr (fun t ht hW => ⟨⟨l1_2, (), rfl, hw, ⟨by rw [ht]; exact hP, hD⟩⟩, hS.F ht⟩) hS.2.2 d_M_reserve_21
  exact L2 _ 0 _ _ _ (Nat.lt_succ_self _) hi2 hl hP hD hS
/-! ConsolidationDeskModel.account(I)I -/
abbrev y_M_account : MethodName := ⟨"ConsolidationDeskModel", "account", "(I)I"⟩
theorem d_M_account_0 : decode prog_5_method_9_code 0 = .ok (.aload_n 0, 1) := by decide +kernel
theorem d_M_account_1 : decode prog_5_method_9_code 1 = .ok (.iconst 0, 1) := by decide +kernel
theorem d_M_account_2 : decode prog_5_method_9_code 2 = .ok (.putfield 49, 3) := by decide +kernel
theorem d_M_account_5 : decode prog_5_method_9_code 5 = .ok (.iload_n 1, 1) := by decide +kernel
theorem d_M_account_6 : decode prog_5_method_9_code 6 = .ok (.iconst 1, 1) := by decide +kernel
theorem d_M_account_7 : decode prog_5_method_9_code 7 = .ok (.if_icmp .lt 29, 3) := by decide +kernel
theorem d_M_account_10 : decode prog_5_method_9_code 10 = .ok (.iload_n 1, 1) := by decide +kernel
theorem d_M_account_11 : decode prog_5_method_9_code 11 = .ok (.iconst 4, 1) := by decide +kernel
theorem d_M_account_12 : decode prog_5_method_9_code 12 = .ok (.if_icmp .gt 24, 3) := by decide +kernel
theorem d_M_account_15 : decode prog_5_method_9_code 15 = .ok (.aload_n 0, 1) := by decide +kernel
theorem d_M_account_16 : decode prog_5_method_9_code 16 = .ok (.getfield 52, 3) := by decide +kernel
theorem d_M_account_19 : decode prog_5_method_9_code 19 = .ok (.bipush 12, 2) := by decide +kernel
theorem d_M_account_21 : decode prog_5_method_9_code 21 = .ok (.if_icmp .eq 15, 3) := by decide +kernel
theorem d_M_account_24 : decode prog_5_method_9_code 24 = .ok (.iload_n 1, 1) := by decide +kernel
theorem d_M_account_25 : decode prog_5_method_9_code 25 = .ok (.iconst 4, 1) := by decide +kernel
theorem d_M_account_26 : decode prog_5_method_9_code 26 = .ok (.if_icmp .ne 12, 3) := by decide +kernel
theorem d_M_account_29 : decode prog_5_method_9_code 29 = .ok (.aload_n 0, 1) := by decide +kernel
theorem d_M_account_30 : decode prog_5_method_9_code 30 = .ok (.invokevirtual 55, 3) := by decide +kernel
theorem d_M_account_33 : decode prog_5_method_9_code 33 = .ok (.ifCond .lt 5, 3) := by decide +kernel
theorem d_M_account_36 : decode prog_5_method_9_code 36 = .ok (.iconst (-1), 1) := by decide +kernel
theorem d_M_account_37 : decode prog_5_method_9_code 37 = .ok (.ireturn, 1) := by decide +kernel
theorem d_M_account_38 : decode prog_5_method_9_code 38 = .ok (.aload_n 0, 1) := by decide +kernel
theorem d_M_account_39 : decode prog_5_method_9_code 39 = .ok (.getfield 13, 3) := by decide +kernel
theorem d_M_account_42 : decode prog_5_method_9_code 42 = .ok (.aload_n 0, 1) := by decide +kernel
theorem d_M_account_43 : decode prog_5_method_9_code 43 = .ok (.getfield 52, 3) := by decide +kernel
theorem d_M_account_46 : decode prog_5_method_9_code 46 = .ok (.iload_n 1, 1) := by decide +kernel
theorem d_M_account_47 : decode prog_5_method_9_code 47 = .ok (.iastore, 1) := by decide +kernel
theorem d_M_account_48 : decode prog_5_method_9_code 48 = .ok (.aload_n 0, 1) := by decide +kernel
theorem d_M_account_49 : decode prog_5_method_9_code 49 = .ok (.dup, 1) := by decide +kernel
theorem d_M_account_50 : decode prog_5_method_9_code 50 = .ok (.getfield 52, 3) := by decide +kernel
theorem d_M_account_53 : decode prog_5_method_9_code 53 = .ok (.iconst 1, 1) := by decide +kernel
theorem d_M_account_54 : decode prog_5_method_9_code 54 = .ok (.iadd, 1) := by decide +kernel
theorem d_M_account_55 : decode prog_5_method_9_code 55 = .ok (.putfield 52, 3) := by decide +kernel
theorem d_M_account_58 : decode prog_5_method_9_code 58 = .ok (.aload_n 0, 1) := by decide +kernel
theorem d_M_account_59 : decode prog_5_method_9_code 59 = .ok (.getfield 52, 3) := by decide +kernel
theorem d_M_account_62 : decode prog_5_method_9_code 62 = .ok (.iconst 1, 1) := by decide +kernel
theorem d_M_account_63 : decode prog_5_method_9_code 63 = .ok (.isub, 1) := by decide +kernel
theorem d_M_account_64 : decode prog_5_method_9_code 64 = .ok (.ireturn, 1) := by decide +kernel
abbrev WS_M_account (cI cL cZ : ClassId)  (h0 a_currency a_sort a_closing a_average a_held a_sum a_told a_left a_step a_outside a_item : Nat) (v_thrown : Int32) (v_companies : Int32) (v_accounts : Int32) (v_done : Int32) (v_items : Int32) (v_sort : (Nat → Int32)) : va_W := [(h0, .inr (3, [.int v_thrown, .int v_companies, .int v_accounts, .ref a_currency, .ref a_sort, .ref a_closing, .ref a_average, .ref a_held, .ref a_sum, .ref a_told, .int v_done, .ref a_left, .ref a_step, .ref a_outside, .int v_items, .ref a_item])), (a_sort, .inl (cI, 12, .inl v_sort))]
def wp_M_account  (p0 : Int32) (v_thrown : Int32) (v_accounts : Int32) (v_sort : (Nat → Int32)) (post : Int32 → (Int32 × Int32 × (Nat → Int32)) → Prop) : Prop := ((p0 < 1 → post (-1) (0, v_accounts, v_sort)) ∧ (¬ p0 < 1 → ((4 < p0 → post (-1) (0, v_accounts, v_sort)) ∧ (¬ 4 < p0 → ((v_accounts = 12 → post (-1) (0, v_accounts, v_sort)) ∧ (¬ v_accounts = 12 → ((¬ p0 = 4 → (vp_in v_accounts 12 ∧ post ((v_accounts + 1) - 1) (0, (v_accounts + 1), (upd v_sort v_accounts.toNatClampNeg p0)))) ∧ (p0 = 4 → (wp_M_reserve v_accounts v_sort (fun (r30 : Int32) (u30 : Unit) => ((r30 < 0 → (vp_in v_accounts 12 ∧ post ((v_accounts + 1) - 1) (0, (v_accounts + 1), (upd v_sort v_accounts.toNatClampNeg p0)))) ∧ (¬ r30 < 0 → post (-1) (0, v_accounts, v_sort)))))))))))))
abbrev ws_M_account : List Cond := .code y_M_account prog_5_method_9_code 2 (some .int) :: kxW
abbrev rm_M_account : Room := { frames := 1, cells := 0, slots := 0, locals := 21 }
abbrev QC_M_account (dC : Nat → ClassId) (dI : Nat → Nat → Nat) (cI cL cZ : ClassId) (A : Nat → Prop)  (h0 a_currency a_sort a_closing a_average a_held a_sum a_told a_left a_step a_outside a_item : Nat) (v_thrown : Int32) (v_companies : Int32) (v_accounts : Int32) (v_done : Int32) (v_items : Int32) (v_sort : (Nat → Int32)) (post : Int32 → (Int32 × Int32 × (Nat → Int32)) → Prop) : Array Value → State → Outcome → State → Prop := va_Qi post (fun (u : Int32 × Int32 × (Nat → Int32)) t => kx_B (dC, dI) classes A (WS_M_account cI cL cZ h0 a_currency a_sort a_closing a_average a_held a_sum a_told a_left a_step a_outside a_item u.1 v_companies u.2.1 v_done v_items u.2.2) t) A
set_option maxHeartbeats 4000000 in
set_option maxRecDepth 100000 in
theorem c_M_account (l : Launch) (dC : Nat → ClassId) (dI : Nat → Nat → Nat) (cI cL cZ : ClassId)  (h0 a_currency a_sort a_closing a_average a_held a_sum a_told a_left a_step a_outside a_item : Nat) (v_thrown : Int32) (v_companies : Int32) (v_accounts : Int32) (v_done : Int32) (v_items : Int32) (v_sort : (Nat → Int32)) (sz : Nat) (p0 : Int32) {post : Int32 → (Int32 × Int32 × (Nat → Int32)) → Prop} (hw : wp_M_account p0 v_thrown v_accounts v_sort post) : Met l y_M_account ws_M_account rm_M_account (kx_Pc (dC, dI) classes (kx_T cI cL cZ) (WS_M_account cI cL cZ h0 a_currency a_sort a_closing a_average a_held a_sum a_told a_left a_step a_outside a_item v_thrown v_companies v_accounts v_done v_items v_sort) sz [.ref h0, .int p0]) (QC_M_account dC dI cI cL cZ (va_A (WS_M_account cI cL cZ h0 a_currency a_sort a_closing a_average a_held a_sum a_told a_left a_step a_outside a_item v_thrown v_companies v_accounts v_done v_items v_sort) sz) h0 a_currency a_sort a_closing a_average a_held a_sum a_told a_left a_step a_outside a_item v_thrown v_companies v_accounts v_done v_items v_sort post) 0 0 (va_A (WS_M_account cI cL cZ h0 a_currency a_sort a_closing a_average a_held a_sum a_told a_left a_step a_outside a_item v_thrown v_companies v_accounts v_done v_items v_sort) sz) := by
  refine Met.ofW (cc := prog_5_method_9_code) (maxL := 2) (ret := (some .int)) (by decide) rfl ?_
  intro p e s m args below meth c s₁ B hml hv
  obtain ⟨rfl, hsz, hP, hK, hD0, hN⟩ := hv
  have hx := B.exec
  have hb := B.bytes
  have hr := B.returns
  have hts := atoms_spec (ws := ws_M_account) B.pre
  have hown : s.vm.findClass R_M = some m.cls := findClass_of_methodNamed B.named
  have hlocks := B.notSynchronized
  subst hsz
  have hD := hD0.self (sz := s.heap.size)
  generalize hAe : va_A (WS_M_account cI cL cZ h0 a_currency a_sort a_closing a_average a_held a_sum a_told a_left a_step a_outside a_item v_thrown v_companies v_accounts v_done v_items v_sort) s.heap.size = A at hD ⊢
  have hA : ∀ q : Nat, s.heap.size ≤ q → A q := fun q h => by rw [← hAe]; exact Or.inr h
  have hS : va_S A s.heap s.heap [] := va_S.rf
  have hP : va_P (dC, dI) classes (WS_M_account cI cL cZ h0 a_currency a_sort a_closing a_average a_held a_sum a_told a_left a_step a_outside a_item v_thrown v_companies v_accounts v_done v_items v_sort) s.heap := hP
  have hl := lv_entry ([.ref h0, .int p0]) (n := 2) (Nat.le_of_ble_eq_true rfl)
  rw [lg_entry_eq]
  generalize (lg_sl ([.ref h0, .int p0]) ++ List.replicate (2 - (lg_sl ([.ref h0, .int p0])).length) Slot.unset).toArray = ls at hl ⊢
  have hl : lv_has ls 2 [(0, .ref h0), (1, .int p0)] := hl
  unfold wp_M_account at hw
  refine (show ∀ (H : Heap) (locs : List Loc), va_P (dC, dI) classes (WS_M_account cI cL cZ h0 a_currency a_sort a_closing a_average a_held a_sum a_told a_left a_step a_outside a_item v_thrown v_companies v_accounts v_done v_items v_sort) H → va_S A s.heap H locs → W p l e (headSpec ws_M_account rm_M_account).room s m ([.ref h0, .int p0] : List Value).toArray below meth c H locs 0 0 (MQ below (QC_M_account dC dI cI cL cZ A h0 a_currency a_sort a_closing a_average a_held a_sum a_told a_left a_step a_outside a_item v_thrown v_companies v_accounts v_done v_items v_sort post) ([.ref h0, .int p0] : List Value).toArray s 0 0 A) (F0 m 0 ls []) from ?_) _ _ hP hS
  intro H locs hP hS
  refine lv_aload_n hx hb d_M_account_0 rfl (lv_at hl 0 rfl) ?_
  refine lv_iconst (v := 0) hx hb d_M_account_1 (by decide) ?_
  refine va_put (D := (dC, dI)) (ci := 3) (v := .int 0) (ty := .int) (C := R_M) (T := F_M) (N := 16) hx hb hts (kx_in in_M) t_M t_M_ok n_M hown hK hP hD hS 0 rfl rfl 0 (by decide) (hts _ (kx_w iw_475)) (fun _ h9 => h9) rfl (by decide +kernel) rfl rfl (Nat.le_of_ble_eq_true rfl) d_M_account_2 (fun H locs hP hD hS => ?_)
  have hP : va_P (dC, dI) classes (WS_M_account cI cL cZ h0 a_currency a_sort a_closing a_average a_held a_sum a_told a_left a_step a_outside a_item 0 v_companies v_accounts v_done v_items v_sort) H := hP
  have hD : va_D A (WS_M_account cI cL cZ h0 a_currency a_sort a_closing a_average a_held a_sum a_told a_left a_step a_outside a_item 0 v_companies v_accounts v_done v_items v_sort) := hD
  refine lv_iload_n hx hb d_M_account_5 rfl (lv_at hl 1 rfl) ?_
  refine lv_iconst (v := 1) hx hb d_M_account_6 (by decide) ?_
  refine lv_icmp_lt (tgt := 36) hx hb d_M_account_7 rfl (fun hc => ?_) (fun hc => ?_)
  ·
    have hw := hw.1 hc
    refine lv_iconst (v := (-1)) hx hb d_M_account_36 (by decide) ?_
    exact W.iret (v := (-1)) hx hb hr (fun t ht hW => ⟨⟨(-1), (0, v_accounts, v_sort), rfl, hw, ⟨by rw [ht]; exact hP, hD⟩⟩, hS.F ht⟩) hS.2.2 d_M_account_37
  ·
    have hw := hw.2 hc
    refine lv_iload_n hx hb d_M_account_10 rfl (lv_at hl 1 rfl) ?_
    refine lv_iconst (v := 4) hx hb d_M_account_11 (by decide) ?_
    refine lv_icmp_gt (tgt := 36) hx hb d_M_account_12 rfl (fun hc => ?_) (fun hc => ?_)
    ·
      have hw := hw.1 hc
      refine lv_iconst (v := (-1)) hx hb d_M_account_36 (by decide) ?_
      exact W.iret (v := (-1)) hx hb hr (fun t ht hW => ⟨⟨(-1), (0, v_accounts, v_sort), rfl, hw, ⟨by rw [ht]; exact hP, hD⟩⟩, hS.F ht⟩) hS.2.2 d_M_account_37
    ·
      have hw := hw.2 hc
      refine lv_aload_n hx hb d_M_account_15 rfl (lv_at hl 0 rfl) ?_
      refine va_get (D := (dC, dI)) (ci := 3) (v := .int v_accounts) (C := R_M) (T := F_M) (N := 16) hx hb hts (kx_in in_M) hown hK hP 0 rfl rfl 2 (by decide) (hts _ (kx_w iw_477)) (fun _ h9 => h9) rfl d_M_account_16 ?_
      refine lv_bipush (v := 12) hx hb d_M_account_19 (by decide) ?_
      refine lv_icmp_eq (tgt := 36) hx hb d_M_account_21 rfl (fun hc => ?_) (fun hc => ?_)
      ·
        have hw := hw.1 hc
        refine lv_iconst (v := (-1)) hx hb d_M_account_36 (by decide) ?_
        exact W.iret (v := (-1)) hx hb hr (fun t ht hW => ⟨⟨(-1), (0, v_accounts, v_sort), rfl, hw, ⟨by rw [ht]; exact hP, hD⟩⟩, hS.F ht⟩) hS.2.2 d_M_account_37
      ·
        have hw := hw.2 hc
        refine lv_iload_n hx hb d_M_account_24 rfl (lv_at hl 1 rfl) ?_
        refine lv_iconst (v := 4) hx hb d_M_account_25 (by decide) ?_
        refine lv_icmp_ne (tgt := 38) hx hb d_M_account_26 rfl (fun hc => ?_) (fun hc => ?_)
        ·
          have hw := hw.1 hc
          refine lv_aload_n hx hb d_M_account_38 rfl (lv_at hl 0 rfl) ?_
          refine va_get (D := (dC, dI)) (ci := 3) (v := .ref a_sort) (C := R_M) (T := F_M) (N := 16) hx hb hts (kx_in in_M) hown hK hP 0 rfl rfl 4 (by decide) (hts _ (kx_w iw_479)) (fun _ h9 => h9) rfl d_M_account_39 ?_
          refine lv_aload_n hx hb d_M_account_42 rfl (lv_at hl 0 rfl) ?_
          refine va_get (D := (dC, dI)) (ci := 3) (v := .int v_accounts) (C := R_M) (T := F_M) (N := 16) hx hb hts (kx_in in_M) hown hK hP 0 rfl rfl 2 (by decide) (hts _ (kx_w iw_477)) (fun _ h9 => h9) rfl d_M_account_43 ?_
          refine lv_iload_n hx hb d_M_account_46 rfl (lv_at hl 1 rfl) ?_
          obtain ⟨hi, hw⟩ := hw
          refine va_iast hx hb hK hP hD hS 1 0 rfl rfl hi d_M_account_47 (fun H locs hP hD hS => ?_)
          have hP : va_P (dC, dI) classes (WS_M_account cI cL cZ h0 a_currency a_sort a_closing a_average a_held a_sum a_told a_left a_step a_outside a_item 0 v_companies v_accounts v_done v_items (upd v_sort v_accounts.toNatClampNeg p0)) H := hP
          have hD : va_D A (WS_M_account cI cL cZ h0 a_currency a_sort a_closing a_average a_held a_sum a_told a_left a_step a_outside a_item 0 v_companies v_accounts v_done v_items (upd v_sort v_accounts.toNatClampNeg p0)) := hD
          refine lv_aload_n hx hb d_M_account_48 rfl (lv_at hl 0 rfl) ?_
          refine lv_dup hx hb d_M_account_49 rfl ?_
          refine va_get (D := (dC, dI)) (ci := 3) (v := .int v_accounts) (C := R_M) (T := F_M) (N := 16) hx hb hts (kx_in in_M) hown hK hP 0 rfl rfl 2 (by decide) (hts _ (kx_w iw_477)) (fun _ h9 => h9) rfl d_M_account_50 ?_
          refine lv_iconst (v := 1) hx hb d_M_account_53 (by decide) ?_
          refine lv_iadd hx hb d_M_account_54 ?_
          refine va_put (D := (dC, dI)) (ci := 3) (v := .int (v_accounts + 1)) (ty := .int) (C := R_M) (T := F_M) (N := 16) hx hb hts (kx_in in_M) t_M t_M_ok n_M hown hK hP hD hS 0 rfl rfl 2 (by decide) (hts _ (kx_w iw_477)) (fun _ h9 => h9) rfl (by decide +kernel) rfl rfl (Nat.le_of_ble_eq_true rfl) d_M_account_55 (fun H locs hP hD hS => ?_)
          have hP : va_P (dC, dI) classes (WS_M_account cI cL cZ h0 a_currency a_sort a_closing a_average a_held a_sum a_told a_left a_step a_outside a_item 0 v_companies (v_accounts + 1) v_done v_items (upd v_sort v_accounts.toNatClampNeg p0)) H := hP
          have hD : va_D A (WS_M_account cI cL cZ h0 a_currency a_sort a_closing a_average a_held a_sum a_told a_left a_step a_outside a_item 0 v_companies (v_accounts + 1) v_done v_items (upd v_sort v_accounts.toNatClampNeg p0)) := hD
          refine lv_aload_n hx hb d_M_account_58 rfl (lv_at hl 0 rfl) ?_
          refine va_get (D := (dC, dI)) (ci := 3) (v := .int (v_accounts + 1)) (C := R_M) (T := F_M) (N := 16) hx hb hts (kx_in in_M) hown hK hP 0 rfl rfl 2 (by decide) (hts _ (kx_w iw_477)) (fun _ h9 => h9) rfl d_M_account_59 ?_
          refine lv_iconst (v := 1) hx hb d_M_account_62 (by decide) ?_
          refine lv_isub hx hb d_M_account_63 ?_
          exact W.iret (v := ((v_accounts + 1) - 1)) hx hb hr (fun t ht hW => ⟨⟨((v_accounts + 1) - 1), (0, (v_accounts + 1), (upd v_sort v_accounts.toNatClampNeg p0)), rfl, hw, ⟨by rw [ht]; exact hP, hD⟩⟩, hS.F ht⟩) hS.2.2 d_M_account_64
        ·
          have hw := hw.2 hc
          refine lv_aload_n hx hb d_M_account_29 rfl (lv_at hl 0 rfl) ?_
          refine kx_calli (ws' := fun u30 => (WS_M_account cI cL cZ h0 a_currency a_sort a_closing a_average a_held a_sum a_told a_left a_step a_outside a_item 0 v_companies v_accounts v_done v_items v_sort)) (va_runV (As := []) (rest := []) ⟨hx, hb, hml, hown, hts⟩ (c_M_reserve l dC dI cI cL cZ h0 a_currency a_sort a_closing a_average a_held a_sum a_told a_left a_step a_outside a_item 0 v_companies v_accounts v_done v_items v_sort H.size  hw) ⟨(callB_of 0 hts (kx_good iw_539) rfl rfl rfl (hts _ (kx_w iw_4)) (hts _ (kx_w iw_536)) (by decide +kernel) ⟨Nat.le_of_ble_eq_true rfl, Nat.le_of_ble_eq_true rfl⟩), (hts _ (kx_w iw_538)), (hts _ (kx_w sl_M_reserve))⟩ (kx_preV hN hK hP hD [0, 1] (by decide) rfl 0 rfl rfl) rfl rfl hl.1 rfl (lv_room (Nat.le_of_ble_eq_true rfl)) d_M_account_30 ⟨Nat.le_of_ble_eq_true rfl, Nat.le_of_ble_eq_true rfl⟩) hP hD hS hA [0, 1] [] rfl rfl (by decide) (by decide) [0, 1] (by decide) (fun _ => rfl) (fun r30 u30 H locs hw hP hD hS => ?_)
          have hP : va_P (dC, dI) classes (WS_M_account cI cL cZ h0 a_currency a_sort a_closing a_average a_held a_sum a_told a_left a_step a_outside a_item 0 v_companies v_accounts v_done v_items v_sort) H := hP
          have hD : va_D A (WS_M_account cI cL cZ h0 a_currency a_sort a_closing a_average a_held a_sum a_told a_left a_step a_outside a_item 0 v_companies v_accounts v_done v_items v_sort) := hD
          refine lv_if_lt (tgt := 38) hx hb d_M_account_33 rfl (fun hc => ?_) (fun hc => ?_)
          ·
            have hw := hw.1 hc
            refine lv_aload_n hx hb d_M_account_38 rfl (lv_at hl 0 rfl) ?_
            refine va_get (D := (dC, dI)) (ci := 3) (v := .ref a_sort) (C := R_M) (T := F_M) (N := 16) hx hb hts (kx_in in_M) hown hK hP 0 rfl rfl 4 (by decide) (hts _ (kx_w iw_479)) (fun _ h9 => h9) rfl d_M_account_39 ?_
            refine lv_aload_n hx hb d_M_account_42 rfl (lv_at hl 0 rfl) ?_
            refine va_get (D := (dC, dI)) (ci := 3) (v := .int v_accounts) (C := R_M) (T := F_M) (N := 16) hx hb hts (kx_in in_M) hown hK hP 0 rfl rfl 2 (by decide) (hts _ (kx_w iw_477)) (fun _ h9 => h9) rfl d_M_account_43 ?_
            refine lv_iload_n hx hb d_M_account_46 rfl (lv_at hl 1 rfl) ?_
            obtain ⟨hi, hw⟩ := hw
            refine va_iast hx hb hK hP hD hS 1 0 rfl rfl hi d_M_account_47 (fun H locs hP hD hS => ?_)
            have hP : va_P (dC, dI) classes (WS_M_account cI cL cZ h0 a_currency a_sort a_closing a_average a_held a_sum a_told a_left a_step a_outside a_item 0 v_companies v_accounts v_done v_items (upd v_sort v_accounts.toNatClampNeg p0)) H := hP
            have hD : va_D A (WS_M_account cI cL cZ h0 a_currency a_sort a_closing a_average a_held a_sum a_told a_left a_step a_outside a_item 0 v_companies v_accounts v_done v_items (upd v_sort v_accounts.toNatClampNeg p0)) := hD
            refine lv_aload_n hx hb d_M_account_48 rfl (lv_at hl 0 rfl) ?_
            refine lv_dup hx hb d_M_account_49 rfl ?_
            refine va_get (D := (dC, dI)) (ci := 3) (v := .int v_accounts) (C := R_M) (T := F_M) (N := 16) hx hb hts (kx_in in_M) hown hK hP 0 rfl rfl 2 (by decide) (hts _ (kx_w iw_477)) (fun _ h9 => h9) rfl d_M_account_50 ?_
            refine lv_iconst (v := 1) hx hb d_M_account_53 (by decide) ?_
            refine lv_iadd hx hb d_M_account_54 ?_
            refine va_put (D := (dC, dI)) (ci := 3) (v := .int (v_accounts + 1)) (ty := .int) (C := R_M) (T := F_M) (N := 16) hx hb hts (kx_in in_M) t_M t_M_ok n_M hown hK hP hD hS 0 rfl rfl 2 (by decide) (hts _ (kx_w iw_477)) (fun _ h9 => h9) rfl (by decide +kernel) rfl rfl (Nat.le_of_ble_eq_true rfl) d_M_account_55 (fun H locs hP hD hS => ?_)
            have hP : va_P (dC, dI) classes (WS_M_account cI cL cZ h0 a_currency a_sort a_closing a_average a_held a_sum a_told a_left a_step a_outside a_item 0 v_companies (v_accounts + 1) v_done v_items (upd v_sort v_accounts.toNatClampNeg p0)) H := hP
            have hD : va_D A (WS_M_account cI cL cZ h0 a_currency a_sort a_closing a_average a_held a_sum a_told a_left a_step a_outside a_item 0 v_companies (v_accounts + 1) v_done v_items (upd v_sort v_accounts.toNatClampNeg p0)) := hD
            refine lv_aload_n hx hb d_M_account_58 rfl (lv_at hl 0 rfl) ?_
            refine va_get (D := (dC, dI)) (ci := 3) (v := .int (v_accounts + 1)) (C := R_M) (T := F_M) (N := 16) hx hb hts (kx_in in_M) hown hK hP 0 rfl rfl 2 (by decide) (hts _ (kx_w iw_477)) (fun _ h9 => h9) rfl d_M_account_59 ?_
            refine lv_iconst (v := 1) hx hb d_M_account_62 (by decide) ?_
            refine lv_isub hx hb d_M_account_63 ?_
            exact W.iret (v := ((v_accounts + 1) - 1)) hx hb hr (fun t ht hW => ⟨⟨((v_accounts + 1) - 1), (0, (v_accounts + 1), (upd v_sort v_accounts.toNatClampNeg p0)), rfl, hw, ⟨by rw [ht]; exact hP, hD⟩⟩, hS.F ht⟩) hS.2.2 d_M_account_64
          ·
            have hw := hw.2 hc
            refine lv_iconst (v := (-1)) hx hb d_M_account_36 (by decide) ?_
            exact W.iret (v := (-1)) hx hb hr (fun t ht hW => ⟨⟨(-1), (0, v_accounts, v_sort), rfl, hw, ⟨by rw [ht]; exact hP, hD⟩⟩, hS.F ht⟩) hS.2.2 d_M_account_37
/-! ConsolidationDeskModel.isTooLong()Z -/
abbrev y_M_isTooLong : MethodName := ⟨"ConsolidationDeskModel", "isTooLong", "()Z"⟩
theorem d_M_isTooLong_0 : decode prog_5_method_10_code 0 = .ok (.sipush 4095, 3) := by decide +kernel
theorem d_M_isTooLong_3 : decode prog_5_method_10_code 3 = .ok (.istore_n 1, 1) := by decide +kernel
theorem d_M_isTooLong_4 : decode prog_5_method_10_code 4 = .ok (.iconst 0, 1) := by decide +kernel
theorem d_M_isTooLong_5 : decode prog_5_method_10_code 5 = .ok (.istore_n 2, 1) := by decide +kernel
theorem d_M_isTooLong_6 : decode prog_5_method_10_code 6 = .ok (.iload_n 2, 1) := by decide +kernel
theorem d_M_isTooLong_7 : decode prog_5_method_10_code 7 = .ok (.iconst 5, 1) := by decide +kernel
theorem d_M_isTooLong_8 : decode prog_5_method_10_code 8 = .ok (.if_icmp .ge 63, 3) := by decide +kernel
theorem d_M_isTooLong_11 : decode prog_5_method_10_code 11 = .ok (.iconst 0, 1) := by decide +kernel
theorem d_M_isTooLong_12 : decode prog_5_method_10_code 12 = .ok (.istore_n 3, 1) := by decide +kernel
theorem d_M_isTooLong_13 : decode prog_5_method_10_code 13 = .ok (.iconst 0, 1) := by decide +kernel
theorem d_M_isTooLong_14 : decode prog_5_method_10_code 14 = .ok (.istore 4, 2) := by decide +kernel
theorem d_M_isTooLong_16 : decode prog_5_method_10_code 16 = .ok (.iload 4, 2) := by decide +kernel
theorem d_M_isTooLong_18 : decode prog_5_method_10_code 18 = .ok (.sipush 144, 3) := by decide +kernel
theorem d_M_isTooLong_21 : decode prog_5_method_10_code 21 = .ok (.if_icmp .ge 42, 3) := by decide +kernel
theorem d_M_isTooLong_24 : decode prog_5_method_10_code 24 = .ok (.aload_n 0, 1) := by decide +kernel
theorem d_M_isTooLong_25 : decode prog_5_method_10_code 25 = .ok (.getfield 22, 3) := by decide +kernel
theorem d_M_isTooLong_28 : decode prog_5_method_10_code 28 = .ok (.iload 4, 2) := by decide +kernel
theorem d_M_isTooLong_30 : decode prog_5_method_10_code 30 = .ok (.iaload, 1) := by decide +kernel
theorem d_M_isTooLong_31 : decode prog_5_method_10_code 31 = .ok (.ifCond .le 26, 3) := by decide +kernel
theorem d_M_isTooLong_34 : decode prog_5_method_10_code 34 = .ok (.iload_n 1, 1) := by decide +kernel
theorem d_M_isTooLong_35 : decode prog_5_method_10_code 35 = .ok (.iload 4, 2) := by decide +kernel
theorem d_M_isTooLong_37 : decode prog_5_method_10_code 37 = .ok (.bipush 12, 2) := by decide +kernel
theorem d_M_isTooLong_39 : decode prog_5_method_10_code 39 = .ok (.idiv, 1) := by decide +kernel
theorem d_M_isTooLong_40 : decode prog_5_method_10_code 40 = .ok (.ishr, 1) := by decide +kernel
theorem d_M_isTooLong_41 : decode prog_5_method_10_code 41 = .ok (.iconst 1, 1) := by decide +kernel
theorem d_M_isTooLong_42 : decode prog_5_method_10_code 42 = .ok (.iand, 1) := by decide +kernel
theorem d_M_isTooLong_43 : decode prog_5_method_10_code 43 = .ok (.iconst 1, 1) := by decide +kernel
theorem d_M_isTooLong_44 : decode prog_5_method_10_code 44 = .ok (.if_icmp .ne 13, 3) := by decide +kernel
theorem d_M_isTooLong_47 : decode prog_5_method_10_code 47 = .ok (.iload_n 3, 1) := by decide +kernel
theorem d_M_isTooLong_48 : decode prog_5_method_10_code 48 = .ok (.iconst 1, 1) := by decide +kernel
theorem d_M_isTooLong_49 : decode prog_5_method_10_code 49 = .ok (.iload 4, 2) := by decide +kernel
theorem d_M_isTooLong_51 : decode prog_5_method_10_code 51 = .ok (.bipush 12, 2) := by decide +kernel
theorem d_M_isTooLong_53 : decode prog_5_method_10_code 53 = .ok (.irem, 1) := by decide +kernel
theorem d_M_isTooLong_54 : decode prog_5_method_10_code 54 = .ok (.ishl, 1) := by decide +kernel
theorem d_M_isTooLong_55 : decode prog_5_method_10_code 55 = .ok (.ior, 1) := by decide +kernel
theorem d_M_isTooLong_56 : decode prog_5_method_10_code 56 = .ok (.istore_n 3, 1) := by decide +kernel
theorem d_M_isTooLong_57 : decode prog_5_method_10_code 57 = .ok (.iinc 4 1, 3) := by decide +kernel
theorem d_M_isTooLong_60 : decode prog_5_method_10_code 60 = .ok (.goto (-44), 3) := by decide +kernel
theorem d_M_isTooLong_63 : decode prog_5_method_10_code 63 = .ok (.iload_n 3, 1) := by decide +kernel
theorem d_M_isTooLong_64 : decode prog_5_method_10_code 64 = .ok (.istore_n 1, 1) := by decide +kernel
theorem d_M_isTooLong_65 : decode prog_5_method_10_code 65 = .ok (.iinc 2 1, 3) := by decide +kernel
theorem d_M_isTooLong_68 : decode prog_5_method_10_code 68 = .ok (.goto (-62), 3) := by decide +kernel
theorem d_M_isTooLong_71 : decode prog_5_method_10_code 71 = .ok (.iload_n 1, 1) := by decide +kernel
theorem d_M_isTooLong_72 : decode prog_5_method_10_code 72 = .ok (.ifCond .eq 7, 3) := by decide +kernel
theorem d_M_isTooLong_75 : decode prog_5_method_10_code 75 = .ok (.iconst 1, 1) := by decide +kernel
theorem d_M_isTooLong_76 : decode prog_5_method_10_code 76 = .ok (.goto 4, 3) := by decide +kernel
theorem d_M_isTooLong_79 : decode prog_5_method_10_code 79 = .ok (.iconst 0, 1) := by decide +kernel
theorem d_M_isTooLong_80 : decode prog_5_method_10_code 80 = .ok (.ireturn, 1) := by decide +kernel
abbrev WS_M_isTooLong (cI cL cZ : ClassId)  (h0 a_currency a_sort a_closing a_average a_held a_sum a_told a_left a_step a_outside a_item : Nat) (v_thrown : Int32) (v_companies : Int32) (v_accounts : Int32) (v_done : Int32) (v_items : Int32) (v_held : (Nat → Int32)) : va_W := [(h0, .inr (3, [.int v_thrown, .int v_companies, .int v_accounts, .ref a_currency, .ref a_sort, .ref a_closing, .ref a_average, .ref a_held, .ref a_sum, .ref a_told, .int v_done, .ref a_left, .ref a_step, .ref a_outside, .int v_items, .ref a_item])), (a_held, .inl (cI, 144, .inl v_held))]
def wp_M_isTooLong   (v_held : (Nat → Int32)) (post : Int32 → Unit → Prop) : Prop := (∃ (I6 : Int32 → Int32 → Prop) (μ6 : Int32 → Int32 → Nat), I6 4095 0 ∧ ∀ (l1_6 : Int32) (l2_6 : Int32), I6 l1_6 l2_6 → ((5 ≤ l2_6 → ((l1_6 = 0 → post 0 ()) ∧ (¬ l1_6 = 0 → post 1 ()))) ∧ (¬ 5 ≤ l2_6 → (∃ (I16 : Int32 → Int32 → Prop) (μ16 : Int32 → Int32 → Nat), I16 0 0 ∧ ∀ (l3_16 : Int32) (l4_16 : Int32), I16 l3_16 l4_16 → ((144 ≤ l4_16 → I6 l3_16 (l2_6 + 1) ∧ μ6 l3_16 (l2_6 + 1) < μ6 l1_6 l2_6) ∧ (¬ 144 ≤ l4_16 → (vp_in l4_16 144 ∧ (((v_held l4_16.toNatClampNeg) ≤ 0 → I16 l3_16 (l4_16 + 1) ∧ μ16 l3_16 (l4_16 + 1) < μ16 l3_16 l4_16) ∧ (¬ (v_held l4_16.toNatClampNeg) ≤ 0 → ((¬ ((l1_6 >>> ((l4_16 / 12) &&& 31)) &&& 1) = 1 → I16 l3_16 (l4_16 + 1) ∧ μ16 l3_16 (l4_16 + 1) < μ16 l3_16 l4_16) ∧ (((l1_6 >>> ((l4_16 / 12) &&& 31)) &&& 1) = 1 → (∀ x56 : Int32, x56 = (l3_16 ||| (1 <<< ((l4_16 - l4_16 / 12 * 12) &&& 31))) → I16 x56 (l4_16 + 1) ∧ μ16 x56 (l4_16 + 1) < μ16 l3_16 l4_16))))))))))))
abbrev ws_M_isTooLong : List Cond := .code y_M_isTooLong prog_5_method_10_code 5 (some .boolean) :: kxW
abbrev rm_M_isTooLong : Room := { frames := 0, cells := 0, slots := 0, locals := 0 }
abbrev QC_M_isTooLong (dC : Nat → ClassId) (dI : Nat → Nat → Nat) (cI cL cZ : ClassId) (A : Nat → Prop)  (h0 a_currency a_sort a_closing a_average a_held a_sum a_told a_left a_step a_outside a_item : Nat) (v_thrown : Int32) (v_companies : Int32) (v_accounts : Int32) (v_done : Int32) (v_items : Int32) (v_held : (Nat → Int32)) (post : Int32 → Unit → Prop) : Array Value → State → Outcome → State → Prop := va_Qi post (fun (u : Unit) t => kx_B (dC, dI) classes A (WS_M_isTooLong cI cL cZ h0 a_currency a_sort a_closing a_average a_held a_sum a_told a_left a_step a_outside a_item v_thrown v_companies v_accounts v_done v_items v_held) t) A
set_option maxHeartbeats 4000000 in
set_option maxRecDepth 100000 in
theorem c_M_isTooLong (l : Launch) (dC : Nat → ClassId) (dI : Nat → Nat → Nat) (cI cL cZ : ClassId)  (h0 a_currency a_sort a_closing a_average a_held a_sum a_told a_left a_step a_outside a_item : Nat) (v_thrown : Int32) (v_companies : Int32) (v_accounts : Int32) (v_done : Int32) (v_items : Int32) (v_held : (Nat → Int32)) (sz : Nat)  {post : Int32 → Unit → Prop} (hw : wp_M_isTooLong v_held post) : Met l y_M_isTooLong ws_M_isTooLong rm_M_isTooLong (kx_Pc (dC, dI) classes (kx_T cI cL cZ) (WS_M_isTooLong cI cL cZ h0 a_currency a_sort a_closing a_average a_held a_sum a_told a_left a_step a_outside a_item v_thrown v_companies v_accounts v_done v_items v_held) sz [.ref h0]) (QC_M_isTooLong dC dI cI cL cZ (va_A (WS_M_isTooLong cI cL cZ h0 a_currency a_sort a_closing a_average a_held a_sum a_told a_left a_step a_outside a_item v_thrown v_companies v_accounts v_done v_items v_held) sz) h0 a_currency a_sort a_closing a_average a_held a_sum a_told a_left a_step a_outside a_item v_thrown v_companies v_accounts v_done v_items v_held post) 0 0 (va_A (WS_M_isTooLong cI cL cZ h0 a_currency a_sort a_closing a_average a_held a_sum a_told a_left a_step a_outside a_item v_thrown v_companies v_accounts v_done v_items v_held) sz) := by
  refine Met.ofW (cc := prog_5_method_10_code) (maxL := 5) (ret := (some .boolean)) (by decide) rfl ?_
  intro p e s m args below meth c s₁ B hml hv
  obtain ⟨rfl, hsz, hP, hK, hD0, hN⟩ := hv
  have hx := B.exec
  have hb := B.bytes
  have hr := B.returns
  have hts := atoms_spec (ws := ws_M_isTooLong) B.pre
  have hown : s.vm.findClass R_M = some m.cls := findClass_of_methodNamed B.named
  have hlocks := B.notSynchronized
  subst hsz
  have hD := hD0.self (sz := s.heap.size)
  generalize hAe : va_A (WS_M_isTooLong cI cL cZ h0 a_currency a_sort a_closing a_average a_held a_sum a_told a_left a_step a_outside a_item v_thrown v_companies v_accounts v_done v_items v_held) s.heap.size = A at hD ⊢
  have hA : ∀ q : Nat, s.heap.size ≤ q → A q := fun q h => by rw [← hAe]; exact Or.inr h
  have hS : va_S A s.heap s.heap [] := va_S.rf
  have hP : va_P (dC, dI) classes (WS_M_isTooLong cI cL cZ h0 a_currency a_sort a_closing a_average a_held a_sum a_told a_left a_step a_outside a_item v_thrown v_companies v_accounts v_done v_items v_held) s.heap := hP
  have hl := lv_entry ([.ref h0]) (n := 5) (Nat.le_of_ble_eq_true rfl)
  rw [lg_entry_eq]
  generalize (lg_sl ([.ref h0]) ++ List.replicate (5 - (lg_sl ([.ref h0])).length) Slot.unset).toArray = ls at hl ⊢
  have hl : lv_has ls 5 [(0, .ref h0)] := hl
  unfold wp_M_isTooLong at hw
  refine (show ∀ (H : Heap) (locs : List Loc), va_P (dC, dI) classes (WS_M_isTooLong cI cL cZ h0 a_currency a_sort a_closing a_average a_held a_sum a_told a_left a_step a_outside a_item v_thrown v_companies v_accounts v_done v_items v_held) H → va_S A s.heap H locs → W p l e (headSpec ws_M_isTooLong rm_M_isTooLong).room s m ([.ref h0] : List Value).toArray below meth c H locs 0 0 (MQ below (QC_M_isTooLong dC dI cI cL cZ A h0 a_currency a_sort a_closing a_average a_held a_sum a_told a_left a_step a_outside a_item v_thrown v_companies v_accounts v_done v_items v_held post) ([.ref h0] : List Value).toArray s 0 0 A) (F0 m 0 ls []) from ?_) _ _ hP hS
  intro H locs hP hS
  refine lv_sipush (v := 4095) hx hb d_M_isTooLong_0 (by decide) ?_
  refine lv_istore_n (lv' := [(1, .int 4095), (0, .ref h0)]) hx hb d_M_isTooLong_3 rfl hl (by decide) rfl (fun ls hl => ?_)
  refine lv_iconst (v := 0) hx hb d_M_isTooLong_4 (by decide) ?_
  refine lv_istore_n (lv' := [(2, .int 0), (1, .int 4095), (0, .ref h0)]) hx hb d_M_isTooLong_5 rfl hl (by decide) rfl (fun ls hl => ?_)
  have hl := lv_sub hl [2, 1, 0] rfl
  obtain ⟨I6, μ6, hi6, hs6⟩ := hw
  have L6 : ∀ (n : Nat) (l1_6 : Int32) (l2_6 : Int32) (H : Heap) (locs : List Loc) (ls : Array Slot), μ6 l1_6 l2_6 < n → I6 l1_6 l2_6 → lv_has ls 5 [(0, .ref h0), (1, .int l1_6), (2, .int l2_6)] → va_P (dC, dI) classes (WS_M_isTooLong cI cL cZ h0 a_currency a_sort a_closing a_average a_held a_sum a_told a_left a_step a_outside a_item v_thrown v_companies v_accounts v_done v_items v_held) H → va_D A (WS_M_isTooLong cI cL cZ h0 a_currency a_sort a_closing a_average a_held a_sum a_told a_left a_step a_outside a_item v_thrown v_companies v_accounts v_done v_items v_held) → va_S A s.heap H locs → W p l e (headSpec ws_M_isTooLong rm_M_isTooLong).room s m ([.ref h0] : List Value).toArray below meth c H locs 0 0 (MQ below (QC_M_isTooLong dC dI cI cL cZ A h0 a_currency a_sort a_closing a_average a_held a_sum a_told a_left a_step a_outside a_item v_thrown v_companies v_accounts v_done v_items v_held post) ([.ref h0] : List Value).toArray s 0 0 A) (F0 m 6 ls []) := by
    intro n
    induction n with
    | zero => intro l1_6 l2_6 H locs ls hn; exact absurd hn (Nat.not_lt_zero _)
    | succ n ih6 =>
      intro l1_6 l2_6 H locs ls hn6 hI hl hP hD hS
      have hw := hs6 l1_6 l2_6 hI
      refine lv_iload_n hx hb d_M_isTooLong_6 rfl (lv_at hl 2 rfl) ?_
      refine lv_iconst (v := 5) hx hb d_M_isTooLong_7 (by decide) ?_
      refine lv_icmp_ge (tgt := 71) hx hb d_M_isTooLong_8 rfl (fun hc => ?_) (fun hc => ?_)
      ·
        have hw := hw.1 hc
        refine lv_iload_n hx hb d_M_isTooLong_71 rfl (lv_at hl 1 rfl) ?_
        refine lv_if_eq (tgt := 79) hx hb d_M_isTooLong_72 rfl (fun hc => ?_) (fun hc => ?_)
        ·
          have hw := hw.1 hc
          refine lv_iconst (v := 0) hx hb d_M_isTooLong_79 (by decide) ?_
          exact W.zret (v := 0) hx hb hr (by decide) (fun t ht hW => ⟨⟨0, (), rfl, hw, ⟨by rw [ht]; exact hP, hD⟩⟩, hS.F ht⟩) hS.2.2 d_M_isTooLong_80
        ·
          have hw := hw.2 hc
          refine lv_iconst (v := 1) hx hb d_M_isTooLong_75 (by decide) ?_
          refine lv_goto (tgt := 80) hx hb d_M_isTooLong_76 rfl ?_
          exact W.zret (v := 1) hx hb hr (by decide) (fun t ht hW => ⟨⟨1, (), rfl, hw, ⟨by rw [ht]; exact hP, hD⟩⟩, hS.F ht⟩) hS.2.2 d_M_isTooLong_80
      ·
        have hw := hw.2 hc
        refine lv_iconst (v := 0) hx hb d_M_isTooLong_11 (by decide) ?_
        refine lv_istore_n (lv' := [(3, .int 0), (0, .ref h0), (1, .int l1_6), (2, .int l2_6)]) hx hb d_M_isTooLong_12 rfl hl (by decide) rfl (fun ls hl => ?_)
        refine lv_iconst (v := 0) hx hb d_M_isTooLong_13 (by decide) ?_
        refine lv_istore (lv' := [(4, .int 0), (3, .int 0), (0, .ref h0), (1, .int l1_6), (2, .int l2_6)]) hx hb d_M_isTooLong_14 hl (by decide) rfl (fun ls hl => ?_)
        have hl := lv_sub hl [2, 3, 4, 1, 0] rfl
        obtain ⟨I16, μ16, hi16, hs16⟩ := hw
        have L16 : ∀ (n : Nat) (l3_16 : Int32) (l4_16 : Int32) (H : Heap) (locs : List Loc) (ls : Array Slot), μ16 l3_16 l4_16 < n → I16 l3_16 l4_16 → lv_has ls 5 [(0, .ref h0), (1, .int l1_6), (2, .int l2_6), (3, .int l3_16), (4, .int l4_16)] → va_P (dC, dI) classes (WS_M_isTooLong cI cL cZ h0 a_currency a_sort a_closing a_average a_held a_sum a_told a_left a_step a_outside a_item v_thrown v_companies v_accounts v_done v_items v_held) H → va_D A (WS_M_isTooLong cI cL cZ h0 a_currency a_sort a_closing a_average a_held a_sum a_told a_left a_step a_outside a_item v_thrown v_companies v_accounts v_done v_items v_held) → va_S A s.heap H locs → W p l e (headSpec ws_M_isTooLong rm_M_isTooLong).room s m ([.ref h0] : List Value).toArray below meth c H locs 0 0 (MQ below (QC_M_isTooLong dC dI cI cL cZ A h0 a_currency a_sort a_closing a_average a_held a_sum a_told a_left a_step a_outside a_item v_thrown v_companies v_accounts v_done v_items v_held post) ([.ref h0] : List Value).toArray s 0 0 A) (F0 m 16 ls []) := by
          intro n
          induction n with
          | zero => intro l3_16 l4_16 H locs ls hn; exact absurd hn (Nat.not_lt_zero _)
          | succ n ih16 =>
            intro l3_16 l4_16 H locs ls hn16 hI hl hP hD hS
            have hw := hs16 l3_16 l4_16 hI
            refine lv_iload hx hb d_M_isTooLong_16 (lv_at hl 4 rfl) ?_
            refine lv_sipush (v := 144) hx hb d_M_isTooLong_18 (by decide) ?_
            refine lv_icmp_ge (tgt := 63) hx hb d_M_isTooLong_21 rfl (fun hc => ?_) (fun hc => ?_)
            ·
              have hw := hw.1 hc
              refine lv_iload_n hx hb d_M_isTooLong_63 rfl (lv_at hl 3 rfl) ?_
              refine lv_istore_n (lv' := [(1, .int l3_16), (0, .ref h0), (2, .int l2_6), (3, .int l3_16), (4, .int l4_16)]) hx hb d_M_isTooLong_64 rfl hl (by decide) rfl (fun ls hl => ?_)
              refine lv_iinc (v := (l2_6 + 1)) (lv' := [(2, .int (l2_6 + 1)), (1, .int l3_16), (0, .ref h0), (3, .int l3_16), (4, .int l4_16)]) hx hb d_M_isTooLong_65 hl (k := 2) rfl rfl (by decide) rfl (fun ls hl => ?_)
              refine lv_goto (tgt := 6) hx hb d_M_isTooLong_68 rfl ?_
              have hl := lv_sub hl [2, 1, 0] rfl
              exact ih6 l3_16 (l2_6 + 1) _ _ _ (Nat.lt_of_lt_of_le hw.2 (Nat.le_of_lt_succ hn6)) hw.1 hl hP hD hS
            ·
              have hw := hw.2 hc
              refine lv_aload_n hx hb d_M_isTooLong_24 rfl (lv_at hl 0 rfl) ?_
              refine va_get (D := (dC, dI)) (ci := 3) (v := .ref a_held) (C := R_M) (T := F_M) (N := 16) hx hb hts (kx_in in_M) hown hK hP 0 rfl rfl 7 (by decide) (hts _ (kx_w iw_482)) (fun _ h9 => h9) rfl d_M_isTooLong_25 ?_
              refine lv_iload hx hb d_M_isTooLong_28 (lv_at hl 4 rfl) ?_
              obtain ⟨hi, hw⟩ := hw
              refine va_iald hx hb hK hP 1 0 rfl rfl hi d_M_isTooLong_30 ?_
              refine lv_if_le (tgt := 57) hx hb d_M_isTooLong_31 rfl (fun hc => ?_) (fun hc => ?_)
              ·
                have hw := hw.1 hc
                refine lv_iinc (v := (l4_16 + 1)) (lv' := [(4, .int (l4_16 + 1)), (0, .ref h0), (1, .int l1_6), (2, .int l2_6), (3, .int l3_16)]) hx hb d_M_isTooLong_57 hl (k := 4) rfl rfl (by decide) rfl (fun ls hl => ?_)
                refine lv_goto (tgt := 16) hx hb d_M_isTooLong_60 rfl ?_
                have hl := lv_sub hl [1, 2, 3, 4, 0] rfl
                exact ih16 l3_16 (l4_16 + 1) _ _ _ (Nat.lt_of_lt_of_le hw.2 (Nat.le_of_lt_succ hn16)) hw.1 hl hP hD hS
              ·
                have hw := hw.2 hc
                refine lv_iload_n hx hb d_M_isTooLong_34 rfl (lv_at hl 1 rfl) ?_
                refine lv_iload hx hb d_M_isTooLong_35 (lv_at hl 4 rfl) ?_
                refine lv_bipush (v := 12) hx hb d_M_isTooLong_37 (by decide) ?_
                refine lv_idiv hx hb d_M_isTooLong_39 (by decide) ?_
                refine lv_ishr hx hb d_M_isTooLong_40 ?_
                refine lv_iconst (v := 1) hx hb d_M_isTooLong_41 (by decide) ?_
                refine lv_iand hx hb d_M_isTooLong_42 ?_
                refine lv_iconst (v := 1) hx hb d_M_isTooLong_43 (by decide) ?_
                refine lv_icmp_ne (tgt := 57) hx hb d_M_isTooLong_44 rfl (fun hc => ?_) (fun hc => ?_)
                ·
                  have hw := hw.1 hc
                  refine lv_iinc (v := (l4_16 + 1)) (lv' := [(4, .int (l4_16 + 1)), (0, .ref h0), (1, .int l1_6), (2, .int l2_6), (3, .int l3_16)]) hx hb d_M_isTooLong_57 hl (k := 4) rfl rfl (by decide) rfl (fun ls hl => ?_)
                  refine lv_goto (tgt := 16) hx hb d_M_isTooLong_60 rfl ?_
                  have hl := lv_sub hl [1, 2, 3, 4, 0] rfl
                  exact ih16 l3_16 (l4_16 + 1) _ _ _ (Nat.lt_of_lt_of_le hw.2 (Nat.le_of_lt_succ hn16)) hw.1 hl hP hD hS
                ·
                  have hw := hw.2 hc
                  refine lv_iload_n hx hb d_M_isTooLong_47 rfl (lv_at hl 3 rfl) ?_
                  refine lv_iconst (v := 1) hx hb d_M_isTooLong_48 (by decide) ?_
                  refine lv_iload hx hb d_M_isTooLong_49 (lv_at hl 4 rfl) ?_
                  refine lv_bipush (v := 12) hx hb d_M_isTooLong_51 (by decide) ?_
                  refine lv_irem hx hb d_M_isTooLong_53 (by decide) ?_
                  refine lv_ishl hx hb d_M_isTooLong_54 ?_
                  refine lv_ior hx hb d_M_isTooLong_55 ?_
                  refine lv_topi (fun x56 e56 => ?_)
                  have hw := hw x56 e56
                  refine lv_istore_n (lv' := [(3, .int x56), (0, .ref h0), (1, .int l1_6), (2, .int l2_6), (4, .int l4_16)]) hx hb d_M_isTooLong_56 rfl hl (by decide) rfl (fun ls hl => ?_)
                  refine lv_iinc (v := (l4_16 + 1)) (lv' := [(4, .int (l4_16 + 1)), (3, .int x56), (0, .ref h0), (1, .int l1_6), (2, .int l2_6)]) hx hb d_M_isTooLong_57 hl (k := 4) rfl rfl (by decide) rfl (fun ls hl => ?_)
                  refine lv_goto (tgt := 16) hx hb d_M_isTooLong_60 rfl ?_
                  have hl := lv_sub hl [2, 3, 4, 1, 0] rfl
                  exact ih16 x56 (l4_16 + 1) _ _ _ (Nat.lt_of_lt_of_le hw.2 (Nat.le_of_lt_succ hn16)) hw.1 hl hP hD hS
        exact L16 _ 0 0 _ _ _ (Nat.lt_succ_self _) hi16 hl hP hD hS
  exact L6 _ 4095 0 _ _ _ (Nat.lt_succ_self _) hi6 hl hP hD hS
/-! ConsolidationDeskModel.hold(III)Z -/
abbrev y_M_hold : MethodName := ⟨"ConsolidationDeskModel", "hold", "(III)Z"⟩
theorem d_M_hold_0 : decode prog_5_method_11_code 0 = .ok (.aload_n 0, 1) := by decide +kernel
theorem d_M_hold_1 : decode prog_5_method_11_code 1 = .ok (.iconst 0, 1) := by decide +kernel
theorem d_M_hold_2 : decode prog_5_method_11_code 2 = .ok (.putfield 49, 3) := by decide +kernel
theorem d_M_hold_5 : decode prog_5_method_11_code 5 = .ok (.aload_n 0, 1) := by decide +kernel
theorem d_M_hold_6 : decode prog_5_method_11_code 6 = .ok (.iload_n 1, 1) := by decide +kernel
theorem d_M_hold_7 : decode prog_5_method_11_code 7 = .ok (.invokevirtual 59, 3) := by decide +kernel
theorem d_M_hold_10 : decode prog_5_method_11_code 10 = .ok (.ifCond .eq 22, 3) := by decide +kernel
theorem d_M_hold_13 : decode prog_5_method_11_code 13 = .ok (.aload_n 0, 1) := by decide +kernel
theorem d_M_hold_14 : decode prog_5_method_11_code 14 = .ok (.iload_n 2, 1) := by decide +kernel
theorem d_M_hold_15 : decode prog_5_method_11_code 15 = .ok (.invokevirtual 59, 3) := by decide +kernel
theorem d_M_hold_18 : decode prog_5_method_11_code 18 = .ok (.ifCond .eq 14, 3) := by decide +kernel
theorem d_M_hold_21 : decode prog_5_method_11_code 21 = .ok (.iload_n 3, 1) := by decide +kernel
theorem d_M_hold_22 : decode prog_5_method_11_code 22 = .ok (.ifCond .lt 10, 3) := by decide +kernel
theorem d_M_hold_25 : decode prog_5_method_11_code 25 = .ok (.iload_n 3, 1) := by decide +kernel
theorem d_M_hold_26 : decode prog_5_method_11_code 26 = .ok (.sipush 10000, 3) := by decide +kernel
theorem d_M_hold_29 : decode prog_5_method_11_code 29 = .ok (.if_icmp .le 5, 3) := by decide +kernel
theorem d_M_hold_32 : decode prog_5_method_11_code 32 = .ok (.iconst 0, 1) := by decide +kernel
theorem d_M_hold_33 : decode prog_5_method_11_code 33 = .ok (.ireturn, 1) := by decide +kernel
theorem d_M_hold_34 : decode prog_5_method_11_code 34 = .ok (.aload_n 0, 1) := by decide +kernel
theorem d_M_hold_35 : decode prog_5_method_11_code 35 = .ok (.getfield 22, 3) := by decide +kernel
theorem d_M_hold_38 : decode prog_5_method_11_code 38 = .ok (.bipush 12, 2) := by decide +kernel
theorem d_M_hold_40 : decode prog_5_method_11_code 40 = .ok (.iload_n 1, 1) := by decide +kernel
theorem d_M_hold_41 : decode prog_5_method_11_code 41 = .ok (.imul, 1) := by decide +kernel
theorem d_M_hold_42 : decode prog_5_method_11_code 42 = .ok (.iload_n 2, 1) := by decide +kernel
theorem d_M_hold_43 : decode prog_5_method_11_code 43 = .ok (.iadd, 1) := by decide +kernel
theorem d_M_hold_44 : decode prog_5_method_11_code 44 = .ok (.iaload, 1) := by decide +kernel
theorem d_M_hold_45 : decode prog_5_method_11_code 45 = .ok (.istore 4, 2) := by decide +kernel
theorem d_M_hold_47 : decode prog_5_method_11_code 47 = .ok (.aload_n 0, 1) := by decide +kernel
theorem d_M_hold_48 : decode prog_5_method_11_code 48 = .ok (.getfield 22, 3) := by decide +kernel
theorem d_M_hold_51 : decode prog_5_method_11_code 51 = .ok (.bipush 12, 2) := by decide +kernel
theorem d_M_hold_53 : decode prog_5_method_11_code 53 = .ok (.iload_n 1, 1) := by decide +kernel
theorem d_M_hold_54 : decode prog_5_method_11_code 54 = .ok (.imul, 1) := by decide +kernel
theorem d_M_hold_55 : decode prog_5_method_11_code 55 = .ok (.iload_n 2, 1) := by decide +kernel
theorem d_M_hold_56 : decode prog_5_method_11_code 56 = .ok (.iadd, 1) := by decide +kernel
theorem d_M_hold_57 : decode prog_5_method_11_code 57 = .ok (.iload_n 3, 1) := by decide +kernel
theorem d_M_hold_58 : decode prog_5_method_11_code 58 = .ok (.iastore, 1) := by decide +kernel
theorem d_M_hold_59 : decode prog_5_method_11_code 59 = .ok (.iconst 0, 1) := by decide +kernel
theorem d_M_hold_60 : decode prog_5_method_11_code 60 = .ok (.istore 5, 2) := by decide +kernel
theorem d_M_hold_62 : decode prog_5_method_11_code 62 = .ok (.iconst 0, 1) := by decide +kernel
theorem d_M_hold_63 : decode prog_5_method_11_code 63 = .ok (.istore 6, 2) := by decide +kernel
theorem d_M_hold_65 : decode prog_5_method_11_code 65 = .ok (.iload 6, 2) := by decide +kernel
theorem d_M_hold_67 : decode prog_5_method_11_code 67 = .ok (.bipush 12, 2) := by decide +kernel
theorem d_M_hold_69 : decode prog_5_method_11_code 69 = .ok (.if_icmp .ge 26, 3) := by decide +kernel
theorem d_M_hold_72 : decode prog_5_method_11_code 72 = .ok (.iload 5, 2) := by decide +kernel
theorem d_M_hold_74 : decode prog_5_method_11_code 74 = .ok (.aload_n 0, 1) := by decide +kernel
theorem d_M_hold_75 : decode prog_5_method_11_code 75 = .ok (.getfield 22, 3) := by decide +kernel
theorem d_M_hold_78 : decode prog_5_method_11_code 78 = .ok (.bipush 12, 2) := by decide +kernel
theorem d_M_hold_80 : decode prog_5_method_11_code 80 = .ok (.iload 6, 2) := by decide +kernel
theorem d_M_hold_82 : decode prog_5_method_11_code 82 = .ok (.imul, 1) := by decide +kernel
theorem d_M_hold_83 : decode prog_5_method_11_code 83 = .ok (.iload_n 2, 1) := by decide +kernel
theorem d_M_hold_84 : decode prog_5_method_11_code 84 = .ok (.iadd, 1) := by decide +kernel
theorem d_M_hold_85 : decode prog_5_method_11_code 85 = .ok (.iaload, 1) := by decide +kernel
theorem d_M_hold_86 : decode prog_5_method_11_code 86 = .ok (.iadd, 1) := by decide +kernel
theorem d_M_hold_87 : decode prog_5_method_11_code 87 = .ok (.istore 5, 2) := by decide +kernel
theorem d_M_hold_89 : decode prog_5_method_11_code 89 = .ok (.iinc 6 1, 3) := by decide +kernel
theorem d_M_hold_92 : decode prog_5_method_11_code 92 = .ok (.goto (-27), 3) := by decide +kernel
theorem d_M_hold_95 : decode prog_5_method_11_code 95 = .ok (.iload 5, 2) := by decide +kernel
theorem d_M_hold_97 : decode prog_5_method_11_code 97 = .ok (.sipush 10000, 3) := by decide +kernel
theorem d_M_hold_100 : decode prog_5_method_11_code 100 = .ok (.if_icmp .gt 12, 3) := by decide +kernel
theorem d_M_hold_103 : decode prog_5_method_11_code 103 = .ok (.aload_n 0, 1) := by decide +kernel
theorem d_M_hold_104 : decode prog_5_method_11_code 104 = .ok (.invokevirtual 63, 3) := by decide +kernel
theorem d_M_hold_107 : decode prog_5_method_11_code 107 = .ok (.ifCond .ne 5, 3) := by decide +kernel
theorem d_M_hold_110 : decode prog_5_method_11_code 110 = .ok (.iconst 1, 1) := by decide +kernel
theorem d_M_hold_111 : decode prog_5_method_11_code 111 = .ok (.ireturn, 1) := by decide +kernel
theorem d_M_hold_112 : decode prog_5_method_11_code 112 = .ok (.aload_n 0, 1) := by decide +kernel
theorem d_M_hold_113 : decode prog_5_method_11_code 113 = .ok (.getfield 22, 3) := by decide +kernel
theorem d_M_hold_116 : decode prog_5_method_11_code 116 = .ok (.bipush 12, 2) := by decide +kernel
theorem d_M_hold_118 : decode prog_5_method_11_code 118 = .ok (.iload_n 1, 1) := by decide +kernel
theorem d_M_hold_119 : decode prog_5_method_11_code 119 = .ok (.imul, 1) := by decide +kernel
theorem d_M_hold_120 : decode prog_5_method_11_code 120 = .ok (.iload_n 2, 1) := by decide +kernel
theorem d_M_hold_121 : decode prog_5_method_11_code 121 = .ok (.iadd, 1) := by decide +kernel
theorem d_M_hold_122 : decode prog_5_method_11_code 122 = .ok (.iload 4, 2) := by decide +kernel
theorem d_M_hold_124 : decode prog_5_method_11_code 124 = .ok (.iastore, 1) := by decide +kernel
theorem d_M_hold_125 : decode prog_5_method_11_code 125 = .ok (.iconst 0, 1) := by decide +kernel
theorem d_M_hold_126 : decode prog_5_method_11_code 126 = .ok (.ireturn, 1) := by decide +kernel
abbrev WS_M_hold (cI cL cZ : ClassId)  (h0 a_currency a_sort a_closing a_average a_held a_sum a_told a_left a_step a_outside a_item : Nat) (v_thrown : Int32) (v_companies : Int32) (v_accounts : Int32) (v_done : Int32) (v_items : Int32) (v_held : (Nat → Int32)) : va_W := [(h0, .inr (3, [.int v_thrown, .int v_companies, .int v_accounts, .ref a_currency, .ref a_sort, .ref a_closing, .ref a_average, .ref a_held, .ref a_sum, .ref a_told, .int v_done, .ref a_left, .ref a_step, .ref a_outside, .int v_items, .ref a_item])), (a_held, .inl (cI, 144, .inl v_held))]
def wp_M_hold  (p0 : Int32) (p1 : Int32) (p2 : Int32) (v_thrown : Int32) (v_companies : Int32) (v_held : (Nat → Int32)) (post : Int32 → (Int32 × (Nat → Int32)) → Prop) : Prop := (wp_M_isCompany p0 v_companies (fun (r7 : Int32) (u7 : Unit) => ((r7 = 0 → post 0 (0, v_held)) ∧ (¬ r7 = 0 → (wp_M_isCompany p1 v_companies (fun (r15 : Int32) (u15 : Unit) => ((r15 = 0 → post 0 (0, v_held)) ∧ (¬ r15 = 0 → ((p2 < 0 → post 0 (0, v_held)) ∧ (¬ p2 < 0 → ((p2 ≤ 10000 → (vp_in ((12 * p0) + p1) 144 ∧ (∀ x45 : Int32, x45 = (v_held (Int32.toNatClampNeg ((12 * p0) + p1))) → (vp_in ((12 * p0) + p1) 144 ∧ (∃ (I65 : Int32 → Int32 → Prop) (μ65 : Int32 → Int32 → Nat), I65 0 0 ∧ ∀ (l5_65 : Int32) (l6_65 : Int32), I65 l5_65 l6_65 → ((12 ≤ l6_65 → ((10000 < l5_65 → (vp_in ((12 * p0) + p1) 144 ∧ post 0 (0, (upd (upd v_held (Int32.toNatClampNeg ((12 * p0) + p1)) p2) (Int32.toNatClampNeg ((12 * p0) + p1)) x45)))) ∧ (¬ 10000 < l5_65 → (wp_M_isTooLong (upd v_held (Int32.toNatClampNeg ((12 * p0) + p1)) p2) (fun (r104 : Int32) (u104 : Unit) => ((¬ r104 = 0 → (vp_in ((12 * p0) + p1) 144 ∧ post 0 (0, (upd (upd v_held (Int32.toNatClampNeg ((12 * p0) + p1)) p2) (Int32.toNatClampNeg ((12 * p0) + p1)) x45)))) ∧ (r104 = 0 → post 1 (0, (upd v_held (Int32.toNatClampNeg ((12 * p0) + p1)) p2))))))))) ∧ (¬ 12 ≤ l6_65 → (vp_in ((12 * l6_65) + p1) 144 ∧ (∀ x87 : Int32, x87 = (l5_65 + ((upd v_held (Int32.toNatClampNeg ((12 * p0) + p1)) p2) (Int32.toNatClampNeg ((12 * l6_65) + p1)))) → I65 x87 (l6_65 + 1) ∧ μ65 x87 (l6_65 + 1) < μ65 l5_65 l6_65))))))))) ∧ (¬ p2 ≤ 10000 → post 0 (0, v_held)))))))))))))
abbrev ws_M_hold : List Cond := .code y_M_hold prog_5_method_11_code 7 (some .boolean) :: kxW
abbrev rm_M_hold : Room := { frames := 1, cells := 0, slots := 0, locals := 24 }
abbrev QC_M_hold (dC : Nat → ClassId) (dI : Nat → Nat → Nat) (cI cL cZ : ClassId) (A : Nat → Prop)  (h0 a_currency a_sort a_closing a_average a_held a_sum a_told a_left a_step a_outside a_item : Nat) (v_thrown : Int32) (v_companies : Int32) (v_accounts : Int32) (v_done : Int32) (v_items : Int32) (v_held : (Nat → Int32)) (post : Int32 → (Int32 × (Nat → Int32)) → Prop) : Array Value → State → Outcome → State → Prop := va_Qi post (fun (u : Int32 × (Nat → Int32)) t => kx_B (dC, dI) classes A (WS_M_hold cI cL cZ h0 a_currency a_sort a_closing a_average a_held a_sum a_told a_left a_step a_outside a_item u.1 v_companies v_accounts v_done v_items u.2) t) A
set_option maxHeartbeats 4000000 in
set_option maxRecDepth 100000 in
theorem c_M_hold (l : Launch) (dC : Nat → ClassId) (dI : Nat → Nat → Nat) (cI cL cZ : ClassId)  (h0 a_currency a_sort a_closing a_average a_held a_sum a_told a_left a_step a_outside a_item : Nat) (v_thrown : Int32) (v_companies : Int32) (v_accounts : Int32) (v_done : Int32) (v_items : Int32) (v_held : (Nat → Int32)) (sz : Nat) (p0 : Int32) (p1 : Int32) (p2 : Int32) {post : Int32 → (Int32 × (Nat → Int32)) → Prop} (hw : wp_M_hold p0 p1 p2 v_thrown v_companies v_held post) : Met l y_M_hold ws_M_hold rm_M_hold (kx_Pc (dC, dI) classes (kx_T cI cL cZ) (WS_M_hold cI cL cZ h0 a_currency a_sort a_closing a_average a_held a_sum a_told a_left a_step a_outside a_item v_thrown v_companies v_accounts v_done v_items v_held) sz [.ref h0, .int p0, .int p1, .int p2]) (QC_M_hold dC dI cI cL cZ (va_A (WS_M_hold cI cL cZ h0 a_currency a_sort a_closing a_average a_held a_sum a_told a_left a_step a_outside a_item v_thrown v_companies v_accounts v_done v_items v_held) sz) h0 a_currency a_sort a_closing a_average a_held a_sum a_told a_left a_step a_outside a_item v_thrown v_companies v_accounts v_done v_items v_held post) 0 0 (va_A (WS_M_hold cI cL cZ h0 a_currency a_sort a_closing a_average a_held a_sum a_told a_left a_step a_outside a_item v_thrown v_companies v_accounts v_done v_items v_held) sz) := by
  refine Met.ofW (cc := prog_5_method_11_code) (maxL := 7) (ret := (some .boolean)) (by decide) rfl ?_
  intro p e s m args below meth c s₁ B hml hv
  obtain ⟨rfl, hsz, hP, hK, hD0, hN⟩ := hv
  have hx := B.exec
  have hb := B.bytes
  have hr := B.returns
  have hts := atoms_spec (ws := ws_M_hold) B.pre
  have hown : s.vm.findClass R_M = some m.cls := findClass_of_methodNamed B.named
  have hlocks := B.notSynchronized
  subst hsz
  have hD := hD0.self (sz := s.heap.size)
  generalize hAe : va_A (WS_M_hold cI cL cZ h0 a_currency a_sort a_closing a_average a_held a_sum a_told a_left a_step a_outside a_item v_thrown v_companies v_accounts v_done v_items v_held) s.heap.size = A at hD ⊢
  have hA : ∀ q : Nat, s.heap.size ≤ q → A q := fun q h => by rw [← hAe]; exact Or.inr h
  have hS : va_S A s.heap s.heap [] := va_S.rf
  have hP : va_P (dC, dI) classes (WS_M_hold cI cL cZ h0 a_currency a_sort a_closing a_average a_held a_sum a_told a_left a_step a_outside a_item v_thrown v_companies v_accounts v_done v_items v_held) s.heap := hP
  have hl := lv_entry ([.ref h0, .int p0, .int p1, .int p2]) (n := 7) (Nat.le_of_ble_eq_true rfl)
  rw [lg_entry_eq]
  generalize (lg_sl ([.ref h0, .int p0, .int p1, .int p2]) ++ List.replicate (7 - (lg_sl ([.ref h0, .int p0, .int p1, .int p2])).length) Slot.unset).toArray = ls at hl ⊢
  have hl : lv_has ls 7 [(0, .ref h0), (1, .int p0), (2, .int p1), (3, .int p2)] := hl
  unfold wp_M_hold at hw
  refine (show ∀ (H : Heap) (locs : List Loc), va_P (dC, dI) classes (WS_M_hold cI cL cZ h0 a_currency a_sort a_closing a_average a_held a_sum a_told a_left a_step a_outside a_item v_thrown v_companies v_accounts v_done v_items v_held) H → va_S A s.heap H locs → W p l e (headSpec ws_M_hold rm_M_hold).room s m ([.ref h0, .int p0, .int p1, .int p2] : List Value).toArray below meth c H locs 0 0 (MQ below (QC_M_hold dC dI cI cL cZ A h0 a_currency a_sort a_closing a_average a_held a_sum a_told a_left a_step a_outside a_item v_thrown v_companies v_accounts v_done v_items v_held post) ([.ref h0, .int p0, .int p1, .int p2] : List Value).toArray s 0 0 A) (F0 m 0 ls []) from ?_) _ _ hP hS
  intro H locs hP hS
  refine lv_aload_n hx hb d_M_hold_0 rfl (lv_at hl 0 rfl) ?_
  refine lv_iconst (v := 0) hx hb d_M_hold_1 (by decide) ?_
  refine va_put (D := (dC, dI)) (ci := 3) (v := .int 0) (ty := .int) (C := R_M) (T := F_M) (N := 16) hx hb hts (kx_in in_M) t_M t_M_ok n_M hown hK hP hD hS 0 rfl rfl 0 (by decide) (hts _ (kx_w iw_475)) (fun _ h9 => h9) rfl (by decide +kernel) rfl rfl (Nat.le_of_ble_eq_true rfl) d_M_hold_2 (fun H locs hP hD hS => ?_)
  have hP : va_P (dC, dI) classes (WS_M_hold cI cL cZ h0 a_currency a_sort a_closing a_average a_held a_sum a_told a_left a_step a_outside a_item 0 v_companies v_accounts v_done v_items v_held) H := hP
  have hD : va_D A (WS_M_hold cI cL cZ h0 a_currency a_sort a_closing a_average a_held a_sum a_told a_left a_step a_outside a_item 0 v_companies v_accounts v_done v_items v_held) := hD
  refine lv_aload_n hx hb d_M_hold_5 rfl (lv_at hl 0 rfl) ?_
  refine lv_iload_n hx hb d_M_hold_6 rfl (lv_at hl 1 rfl) ?_
  refine kx_calli (ws' := fun u7 => (WS_M_hold cI cL cZ h0 a_currency a_sort a_closing a_average a_held a_sum a_told a_left a_step a_outside a_item 0 v_companies v_accounts v_done v_items v_held)) (va_runV (As := [.int p0]) (rest := []) ⟨hx, hb, hml, hown, hts⟩ (c_M_isCompany l dC dI cI cL cZ h0 a_currency a_sort a_closing a_average a_held a_sum a_told a_left a_step a_outside a_item 0 v_companies v_accounts v_done v_items H.size p0 hw) ⟨(callB_of 1 hts (kx_good iw_547) rfl rfl rfl (hts _ (kx_w iw_4)) (hts _ (kx_w iw_544)) (by decide +kernel) ⟨Nat.le_of_ble_eq_true rfl, Nat.le_of_ble_eq_true rfl⟩), (hts _ (kx_w iw_546)), (hts _ (kx_w sl_M_isCompany))⟩ (kx_preV hN hK hP hD [0] (by decide) rfl 0 rfl rfl) rfl rfl hl.1 rfl (lv_room (Nat.le_of_ble_eq_true rfl)) d_M_hold_7 ⟨Nat.le_of_ble_eq_true rfl, Nat.le_of_ble_eq_true rfl⟩) hP hD hS hA [0] [1] rfl rfl (by decide) (by decide) [1, 0] (by decide) (fun _ => rfl) (fun r7 u7 H locs hw hP hD hS => ?_)
  have hP : va_P (dC, dI) classes (WS_M_hold cI cL cZ h0 a_currency a_sort a_closing a_average a_held a_sum a_told a_left a_step a_outside a_item 0 v_companies v_accounts v_done v_items v_held) H := hP
  have hD : va_D A (WS_M_hold cI cL cZ h0 a_currency a_sort a_closing a_average a_held a_sum a_told a_left a_step a_outside a_item 0 v_companies v_accounts v_done v_items v_held) := hD
  refine lv_if_eq (tgt := 32) hx hb d_M_hold_10 rfl (fun hc => ?_) (fun hc => ?_)
  ·
    have hw := hw.1 hc
    refine lv_iconst (v := 0) hx hb d_M_hold_32 (by decide) ?_
    exact W.zret (v := 0) hx hb hr (by decide) (fun t ht hW => ⟨⟨0, (0, v_held), rfl, hw, ⟨by rw [ht]; exact hP, hD⟩⟩, hS.F ht⟩) hS.2.2 d_M_hold_33
  ·
    have hw := hw.2 hc
    refine lv_aload_n hx hb d_M_hold_13 rfl (lv_at hl 0 rfl) ?_
    refine lv_iload_n hx hb d_M_hold_14 rfl (lv_at hl 2 rfl) ?_
    refine kx_calli (ws' := fun u15 => (WS_M_hold cI cL cZ h0 a_currency a_sort a_closing a_average a_held a_sum a_told a_left a_step a_outside a_item 0 v_companies v_accounts v_done v_items v_held)) (va_runV (As := [.int p1]) (rest := []) ⟨hx, hb, hml, hown, hts⟩ (c_M_isCompany l dC dI cI cL cZ h0 a_currency a_sort a_closing a_average a_held a_sum a_told a_left a_step a_outside a_item 0 v_companies v_accounts v_done v_items H.size p1 hw) ⟨(callB_of 1 hts (kx_good iw_547) rfl rfl rfl (hts _ (kx_w iw_4)) (hts _ (kx_w iw_544)) (by decide +kernel) ⟨Nat.le_of_ble_eq_true rfl, Nat.le_of_ble_eq_true rfl⟩), (hts _ (kx_w iw_546)), (hts _ (kx_w sl_M_isCompany))⟩ (kx_preV hN hK hP hD [0] (by decide) rfl 0 rfl rfl) rfl rfl hl.1 rfl (lv_room (Nat.le_of_ble_eq_true rfl)) d_M_hold_15 ⟨Nat.le_of_ble_eq_true rfl, Nat.le_of_ble_eq_true rfl⟩) hP hD hS hA [0] [1] rfl rfl (by decide) (by decide) [1, 0] (by decide) (fun _ => rfl) (fun r15 u15 H locs hw hP hD hS => ?_)
    have hP : va_P (dC, dI) classes (WS_M_hold cI cL cZ h0 a_currency a_sort a_closing a_average a_held a_sum a_told a_left a_step a_outside a_item 0 v_companies v_accounts v_done v_items v_held) H := hP
    have hD : va_D A (WS_M_hold cI cL cZ h0 a_currency a_sort a_closing a_average a_held a_sum a_told a_left a_step a_outside a_item 0 v_companies v_accounts v_done v_items v_held) := hD
    refine lv_if_eq (tgt := 32) hx hb d_M_hold_18 rfl (fun hc => ?_) (fun hc => ?_)
    ·
      have hw := hw.1 hc
      refine lv_iconst (v := 0) hx hb d_M_hold_32 (by decide) ?_
      exact W.zret (v := 0) hx hb hr (by decide) (fun t ht hW => ⟨⟨0, (0, v_held), rfl, hw, ⟨by rw [ht]; exact hP, hD⟩⟩, hS.F ht⟩) hS.2.2 d_M_hold_33
    ·
      have hw := hw.2 hc
      refine lv_iload_n hx hb d_M_hold_21 rfl (lv_at hl 3 rfl) ?_
      refine lv_if_lt (tgt := 32) hx hb d_M_hold_22 rfl (fun hc => ?_) (fun hc => ?_)
      ·
        have hw := hw.1 hc
        refine lv_iconst (v := 0) hx hb d_M_hold_32 (by decide) ?_
        exact W.zret (v := 0) hx hb hr (by decide) (fun t ht hW => ⟨⟨0, (0, v_held), rfl, hw, ⟨by rw [ht]; exact hP, hD⟩⟩, hS.F ht⟩) hS.2.2 d_M_hold_33
      ·
        have hw := hw.2 hc
        refine lv_iload_n hx hb d_M_hold_25 rfl (lv_at hl 3 rfl) ?_
        refine lv_sipush (v := 10000) hx hb d_M_hold_26 (by decide) ?_
        refine lv_icmp_le (tgt := 34) hx hb d_M_hold_29 rfl (fun hc => ?_) (fun hc => ?_)
        ·
          have hw := hw.1 hc
          refine lv_aload_n hx hb d_M_hold_34 rfl (lv_at hl 0 rfl) ?_
          refine va_get (D := (dC, dI)) (ci := 3) (v := .ref a_held) (C := R_M) (T := F_M) (N := 16) hx hb hts (kx_in in_M) hown hK hP 0 rfl rfl 7 (by decide) (hts _ (kx_w iw_482)) (fun _ h9 => h9) rfl d_M_hold_35 ?_
          refine lv_bipush (v := 12) hx hb d_M_hold_38 (by decide) ?_
          refine lv_iload_n hx hb d_M_hold_40 rfl (lv_at hl 1 rfl) ?_
          refine lv_imul hx hb d_M_hold_41 ?_
          refine lv_iload_n hx hb d_M_hold_42 rfl (lv_at hl 2 rfl) ?_
          refine lv_iadd hx hb d_M_hold_43 ?_
          obtain ⟨hi, hw⟩ := hw
          refine va_iald hx hb hK hP 1 0 rfl rfl hi d_M_hold_44 ?_
          refine lv_topi (fun x45 e45 => ?_)
          have hw := hw x45 e45
          refine lv_istore (lv' := [(4, .int x45), (0, .ref h0), (1, .int p0), (2, .int p1), (3, .int p2)]) hx hb d_M_hold_45 hl (by decide) rfl (fun ls hl => ?_)
          refine lv_aload_n hx hb d_M_hold_47 rfl (lv_at hl 1 rfl) ?_
          refine va_get (D := (dC, dI)) (ci := 3) (v := .ref a_held) (C := R_M) (T := F_M) (N := 16) hx hb hts (kx_in in_M) hown hK hP 0 rfl rfl 7 (by decide) (hts _ (kx_w iw_482)) (fun _ h9 => h9) rfl d_M_hold_48 ?_
          refine lv_bipush (v := 12) hx hb d_M_hold_51 (by decide) ?_
          refine lv_iload_n hx hb d_M_hold_53 rfl (lv_at hl 2 rfl) ?_
          refine lv_imul hx hb d_M_hold_54 ?_
          refine lv_iload_n hx hb d_M_hold_55 rfl (lv_at hl 3 rfl) ?_
          refine lv_iadd hx hb d_M_hold_56 ?_
          refine lv_iload_n hx hb d_M_hold_57 rfl (lv_at hl 4 rfl) ?_
          obtain ⟨hi, hw⟩ := hw
          refine va_iast hx hb hK hP hD hS 1 0 rfl rfl hi d_M_hold_58 (fun H locs hP hD hS => ?_)
          have hP : va_P (dC, dI) classes (WS_M_hold cI cL cZ h0 a_currency a_sort a_closing a_average a_held a_sum a_told a_left a_step a_outside a_item 0 v_companies v_accounts v_done v_items (upd v_held (Int32.toNatClampNeg ((12 * p0) + p1)) p2)) H := hP
          have hD : va_D A (WS_M_hold cI cL cZ h0 a_currency a_sort a_closing a_average a_held a_sum a_told a_left a_step a_outside a_item 0 v_companies v_accounts v_done v_items (upd v_held (Int32.toNatClampNeg ((12 * p0) + p1)) p2)) := hD
          refine lv_iconst (v := 0) hx hb d_M_hold_59 (by decide) ?_
          refine lv_istore (lv' := [(5, .int 0), (4, .int x45), (0, .ref h0), (1, .int p0), (2, .int p1), (3, .int p2)]) hx hb d_M_hold_60 hl (by decide) rfl (fun ls hl => ?_)
          refine lv_iconst (v := 0) hx hb d_M_hold_62 (by decide) ?_
          refine lv_istore (lv' := [(6, .int 0), (5, .int 0), (4, .int x45), (0, .ref h0), (1, .int p0), (2, .int p1), (3, .int p2)]) hx hb d_M_hold_63 hl (by decide) rfl (fun ls hl => ?_)
          have hl := lv_sub hl [3, 4, 5, 6, 2, 1, 0] rfl
          obtain ⟨I65, μ65, hi65, hs65⟩ := hw
          have L65 : ∀ (n : Nat) (l5_65 : Int32) (l6_65 : Int32) (H : Heap) (locs : List Loc) (ls : Array Slot), μ65 l5_65 l6_65 < n → I65 l5_65 l6_65 → lv_has ls 7 [(0, .ref h0), (1, .int p0), (2, .int p1), (3, .int p2), (4, .int x45), (5, .int l5_65), (6, .int l6_65)] → va_P (dC, dI) classes (WS_M_hold cI cL cZ h0 a_currency a_sort a_closing a_average a_held a_sum a_told a_left a_step a_outside a_item 0 v_companies v_accounts v_done v_items (upd v_held (Int32.toNatClampNeg ((12 * p0) + p1)) p2)) H → va_D A (WS_M_hold cI cL cZ h0 a_currency a_sort a_closing a_average a_held a_sum a_told a_left a_step a_outside a_item 0 v_companies v_accounts v_done v_items (upd v_held (Int32.toNatClampNeg ((12 * p0) + p1)) p2)) → va_S A s.heap H locs → W p l e (headSpec ws_M_hold rm_M_hold).room s m ([.ref h0, .int p0, .int p1, .int p2] : List Value).toArray below meth c H locs 0 0 (MQ below (QC_M_hold dC dI cI cL cZ A h0 a_currency a_sort a_closing a_average a_held a_sum a_told a_left a_step a_outside a_item v_thrown v_companies v_accounts v_done v_items v_held post) ([.ref h0, .int p0, .int p1, .int p2] : List Value).toArray s 0 0 A) (F0 m 65 ls []) := by
            intro n
            induction n with
            | zero => intro l5_65 l6_65 H locs ls hn; exact absurd hn (Nat.not_lt_zero _)
            | succ n ih65 =>
              intro l5_65 l6_65 H locs ls hn65 hI hl hP hD hS
              have hw := hs65 l5_65 l6_65 hI
              refine lv_iload hx hb d_M_hold_65 (lv_at hl 6 rfl) ?_
              refine lv_bipush (v := 12) hx hb d_M_hold_67 (by decide) ?_
              refine lv_icmp_ge (tgt := 95) hx hb d_M_hold_69 rfl (fun hc => ?_) (fun hc => ?_)
              ·
                have hw := hw.1 hc
                refine lv_iload hx hb d_M_hold_95 (lv_at hl 5 rfl) ?_
                refine lv_sipush (v := 10000) hx hb d_M_hold_97 (by decide) ?_
                refine lv_icmp_gt (tgt := 112) hx hb d_M_hold_100 rfl (fun hc => ?_) (fun hc => ?_)
                ·
                  have hw := hw.1 hc
                  refine lv_aload_n hx hb d_M_hold_112 rfl (lv_at hl 0 rfl) ?_
                  refine va_get (D := (dC, dI)) (ci := 3) (v := .ref a_held) (C := R_M) (T := F_M) (N := 16) hx hb hts (kx_in in_M) hown hK hP 0 rfl rfl 7 (by decide) (hts _ (kx_w iw_482)) (fun _ h9 => h9) rfl d_M_hold_113 ?_
                  refine lv_bipush (v := 12) hx hb d_M_hold_116 (by decide) ?_
                  refine lv_iload_n hx hb d_M_hold_118 rfl (lv_at hl 1 rfl) ?_
                  refine lv_imul hx hb d_M_hold_119 ?_
                  refine lv_iload_n hx hb d_M_hold_120 rfl (lv_at hl 2 rfl) ?_
                  refine lv_iadd hx hb d_M_hold_121 ?_
                  refine lv_iload hx hb d_M_hold_122 (lv_at hl 4 rfl) ?_
                  obtain ⟨hi, hw⟩ := hw
                  refine va_iast hx hb hK hP hD hS 1 0 rfl rfl hi d_M_hold_124 (fun H locs hP hD hS => ?_)
                  have hP : va_P (dC, dI) classes (WS_M_hold cI cL cZ h0 a_currency a_sort a_closing a_average a_held a_sum a_told a_left a_step a_outside a_item 0 v_companies v_accounts v_done v_items (upd (upd v_held (Int32.toNatClampNeg ((12 * p0) + p1)) p2) (Int32.toNatClampNeg ((12 * p0) + p1)) x45)) H := hP
                  have hD : va_D A (WS_M_hold cI cL cZ h0 a_currency a_sort a_closing a_average a_held a_sum a_told a_left a_step a_outside a_item 0 v_companies v_accounts v_done v_items (upd (upd v_held (Int32.toNatClampNeg ((12 * p0) + p1)) p2) (Int32.toNatClampNeg ((12 * p0) + p1)) x45)) := hD
                  refine lv_iconst (v := 0) hx hb d_M_hold_125 (by decide) ?_
                  exact W.zret (v := 0) hx hb hr (by decide) (fun t ht hW => ⟨⟨0, (0, (upd (upd v_held (Int32.toNatClampNeg ((12 * p0) + p1)) p2) (Int32.toNatClampNeg ((12 * p0) + p1)) x45)), rfl, hw, ⟨by rw [ht]; exact hP, hD⟩⟩, hS.F ht⟩) hS.2.2 d_M_hold_126
                ·
                  have hw := hw.2 hc
                  refine lv_aload_n hx hb d_M_hold_103 rfl (lv_at hl 0 rfl) ?_
                  refine kx_calli (ws' := fun u104 => (WS_M_hold cI cL cZ h0 a_currency a_sort a_closing a_average a_held a_sum a_told a_left a_step a_outside a_item 0 v_companies v_accounts v_done v_items (upd v_held (Int32.toNatClampNeg ((12 * p0) + p1)) p2))) (va_runV (As := []) (rest := []) ⟨hx, hb, hml, hown, hts⟩ (c_M_isTooLong l dC dI cI cL cZ h0 a_currency a_sort a_closing a_average a_held a_sum a_told a_left a_step a_outside a_item 0 v_companies v_accounts v_done v_items (upd v_held (Int32.toNatClampNeg ((12 * p0) + p1)) p2) H.size  hw) ⟨(callB_of 0 hts (kx_good iw_551) rfl rfl rfl (hts _ (kx_w iw_4)) (hts _ (kx_w iw_548)) (by decide +kernel) ⟨Nat.le_of_ble_eq_true rfl, Nat.le_of_ble_eq_true rfl⟩), (hts _ (kx_w iw_550)), (hts _ (kx_w sl_M_isTooLong))⟩ (kx_preV hN hK hP hD [0, 1] (by decide) rfl 0 rfl rfl) rfl rfl hl.1 rfl (lv_room (Nat.le_of_ble_eq_true rfl)) d_M_hold_104 ⟨Nat.le_of_ble_eq_true rfl, Nat.le_of_ble_eq_true rfl⟩) hP hD hS hA [0, 1] [] rfl rfl (by decide) (by decide) [0, 1] (by decide) (fun _ => rfl) (fun r104 u104 H locs hw hP hD hS => ?_)
                  have hP : va_P (dC, dI) classes (WS_M_hold cI cL cZ h0 a_currency a_sort a_closing a_average a_held a_sum a_told a_left a_step a_outside a_item 0 v_companies v_accounts v_done v_items (upd v_held (Int32.toNatClampNeg ((12 * p0) + p1)) p2)) H := hP
                  have hD : va_D A (WS_M_hold cI cL cZ h0 a_currency a_sort a_closing a_average a_held a_sum a_told a_left a_step a_outside a_item 0 v_companies v_accounts v_done v_items (upd v_held (Int32.toNatClampNeg ((12 * p0) + p1)) p2)) := hD
                  refine lv_if_ne (tgt := 112) hx hb d_M_hold_107 rfl (fun hc => ?_) (fun hc => ?_)
                  ·
                    have hw := hw.1 hc
                    refine lv_aload_n hx hb d_M_hold_112 rfl (lv_at hl 0 rfl) ?_
                    refine va_get (D := (dC, dI)) (ci := 3) (v := .ref a_held) (C := R_M) (T := F_M) (N := 16) hx hb hts (kx_in in_M) hown hK hP 0 rfl rfl 7 (by decide) (hts _ (kx_w iw_482)) (fun _ h9 => h9) rfl d_M_hold_113 ?_
                    refine lv_bipush (v := 12) hx hb d_M_hold_116 (by decide) ?_
                    refine lv_iload_n hx hb d_M_hold_118 rfl (lv_at hl 1 rfl) ?_
                    refine lv_imul hx hb d_M_hold_119 ?_
                    refine lv_iload_n hx hb d_M_hold_120 rfl (lv_at hl 2 rfl) ?_
                    refine lv_iadd hx hb d_M_hold_121 ?_
                    refine lv_iload hx hb d_M_hold_122 (lv_at hl 4 rfl) ?_
                    obtain ⟨hi, hw⟩ := hw
                    refine va_iast hx hb hK hP hD hS 1 0 rfl rfl hi d_M_hold_124 (fun H locs hP hD hS => ?_)
                    have hP : va_P (dC, dI) classes (WS_M_hold cI cL cZ h0 a_currency a_sort a_closing a_average a_held a_sum a_told a_left a_step a_outside a_item 0 v_companies v_accounts v_done v_items (upd (upd v_held (Int32.toNatClampNeg ((12 * p0) + p1)) p2) (Int32.toNatClampNeg ((12 * p0) + p1)) x45)) H := hP
                    have hD : va_D A (WS_M_hold cI cL cZ h0 a_currency a_sort a_closing a_average a_held a_sum a_told a_left a_step a_outside a_item 0 v_companies v_accounts v_done v_items (upd (upd v_held (Int32.toNatClampNeg ((12 * p0) + p1)) p2) (Int32.toNatClampNeg ((12 * p0) + p1)) x45)) := hD
                    refine lv_iconst (v := 0) hx hb d_M_hold_125 (by decide) ?_
                    exact W.zret (v := 0) hx hb hr (by decide) (fun t ht hW => ⟨⟨0, (0, (upd (upd v_held (Int32.toNatClampNeg ((12 * p0) + p1)) p2) (Int32.toNatClampNeg ((12 * p0) + p1)) x45)), rfl, hw, ⟨by rw [ht]; exact hP, hD⟩⟩, hS.F ht⟩) hS.2.2 d_M_hold_126
                  ·
                    have hw := hw.2 hc
                    refine lv_iconst (v := 1) hx hb d_M_hold_110 (by decide) ?_
                    exact W.zret (v := 1) hx hb hr (by decide) (fun t ht hW => ⟨⟨1, (0, (upd v_held (Int32.toNatClampNeg ((12 * p0) + p1)) p2)), rfl, hw, ⟨by rw [ht]; exact hP, hD⟩⟩, hS.F ht⟩) hS.2.2 d_M_hold_111
              ·
                have hw := hw.2 hc
                refine lv_iload hx hb d_M_hold_72 (lv_at hl 5 rfl) ?_
                refine lv_aload_n hx hb d_M_hold_74 rfl (lv_at hl 0 rfl) ?_
                refine va_get (D := (dC, dI)) (ci := 3) (v := .ref a_held) (C := R_M) (T := F_M) (N := 16) hx hb hts (kx_in in_M) hown hK hP 0 rfl rfl 7 (by decide) (hts _ (kx_w iw_482)) (fun _ h9 => h9) rfl d_M_hold_75 ?_
                refine lv_bipush (v := 12) hx hb d_M_hold_78 (by decide) ?_
                refine lv_iload hx hb d_M_hold_80 (lv_at hl 6 rfl) ?_
                refine lv_imul hx hb d_M_hold_82 ?_
                refine lv_iload_n hx hb d_M_hold_83 rfl (lv_at hl 2 rfl) ?_
                refine lv_iadd hx hb d_M_hold_84 ?_
                obtain ⟨hi, hw⟩ := hw
                refine va_iald hx hb hK hP 1 0 rfl rfl hi d_M_hold_85 ?_
                refine lv_iadd hx hb d_M_hold_86 ?_
                refine lv_topi (fun x87 e87 => ?_)
                have hw := hw x87 e87
                refine lv_istore (lv' := [(5, .int x87), (0, .ref h0), (1, .int p0), (2, .int p1), (3, .int p2), (4, .int x45), (6, .int l6_65)]) hx hb d_M_hold_87 hl (by decide) rfl (fun ls hl => ?_)
                refine lv_iinc (v := (l6_65 + 1)) (lv' := [(6, .int (l6_65 + 1)), (5, .int x87), (0, .ref h0), (1, .int p0), (2, .int p1), (3, .int p2), (4, .int x45)]) hx hb d_M_hold_89 hl (k := 6) rfl rfl (by decide) rfl (fun ls hl => ?_)
                refine lv_goto (tgt := 65) hx hb d_M_hold_92 rfl ?_
                have hl := lv_sub hl [2, 3, 4, 5, 6, 1, 0] rfl
                exact ih65 x87 (l6_65 + 1) _ _ _ (Nat.lt_of_lt_of_le hw.2 (Nat.le_of_lt_succ hn65)) hw.1 hl hP hD hS
          exact L65 _ 0 0 _ _ _ (Nat.lt_succ_self _) hi65 hl hP hD hS
        ·
          have hw := hw.2 hc
          refine lv_iconst (v := 0) hx hb d_M_hold_32 (by decide) ?_
          exact W.zret (v := 0) hx hb hr (by decide) (fun t ht hW => ⟨⟨0, (0, v_held), rfl, hw, ⟨by rw [ht]; exact hP, hD⟩⟩, hS.F ht⟩) hS.2.2 d_M_hold_33
/-! ConsolidationDeskModel.isControlled(I)Z -/
abbrev y_M_isControlled : MethodName := ⟨"ConsolidationDeskModel", "isControlled", "(I)Z"⟩
theorem d_M_isControlled_0 : decode prog_5_method_12_code 0 = .ok (.iconst 1, 1) := by decide +kernel
theorem d_M_isControlled_1 : decode prog_5_method_12_code 1 = .ok (.istore_n 2, 1) := by decide +kernel
theorem d_M_isControlled_2 : decode prog_5_method_12_code 2 = .ok (.iconst 0, 1) := by decide +kernel
theorem d_M_isControlled_3 : decode prog_5_method_12_code 3 = .ok (.istore_n 3, 1) := by decide +kernel
theorem d_M_isControlled_4 : decode prog_5_method_12_code 4 = .ok (.iload_n 3, 1) := by decide +kernel
theorem d_M_isControlled_5 : decode prog_5_method_12_code 5 = .ok (.bipush 12, 2) := by decide +kernel
theorem d_M_isControlled_7 : decode prog_5_method_12_code 7 = .ok (.if_icmp .ge 84, 3) := by decide +kernel
theorem d_M_isControlled_10 : decode prog_5_method_12_code 10 = .ok (.iconst 0, 1) := by decide +kernel
theorem d_M_isControlled_11 : decode prog_5_method_12_code 11 = .ok (.istore 4, 2) := by decide +kernel
theorem d_M_isControlled_13 : decode prog_5_method_12_code 13 = .ok (.iload 4, 2) := by decide +kernel
theorem d_M_isControlled_15 : decode prog_5_method_12_code 15 = .ok (.bipush 12, 2) := by decide +kernel
theorem d_M_isControlled_17 : decode prog_5_method_12_code 17 = .ok (.if_icmp .ge 68, 3) := by decide +kernel
theorem d_M_isControlled_20 : decode prog_5_method_12_code 20 = .ok (.iconst 0, 1) := by decide +kernel
theorem d_M_isControlled_21 : decode prog_5_method_12_code 21 = .ok (.istore 5, 2) := by decide +kernel
theorem d_M_isControlled_23 : decode prog_5_method_12_code 23 = .ok (.iconst 0, 1) := by decide +kernel
theorem d_M_isControlled_24 : decode prog_5_method_12_code 24 = .ok (.istore 6, 2) := by decide +kernel
theorem d_M_isControlled_26 : decode prog_5_method_12_code 26 = .ok (.iload 6, 2) := by decide +kernel
theorem d_M_isControlled_28 : decode prog_5_method_12_code 28 = .ok (.bipush 12, 2) := by decide +kernel
theorem d_M_isControlled_30 : decode prog_5_method_12_code 30 = .ok (.if_icmp .ge 34, 3) := by decide +kernel
theorem d_M_isControlled_33 : decode prog_5_method_12_code 33 = .ok (.iload 5, 2) := by decide +kernel
theorem d_M_isControlled_35 : decode prog_5_method_12_code 35 = .ok (.iload_n 2, 1) := by decide +kernel
theorem d_M_isControlled_36 : decode prog_5_method_12_code 36 = .ok (.iload 6, 2) := by decide +kernel
theorem d_M_isControlled_38 : decode prog_5_method_12_code 38 = .ok (.ishr, 1) := by decide +kernel
theorem d_M_isControlled_39 : decode prog_5_method_12_code 39 = .ok (.iconst 1, 1) := by decide +kernel
theorem d_M_isControlled_40 : decode prog_5_method_12_code 40 = .ok (.iand, 1) := by decide +kernel
theorem d_M_isControlled_41 : decode prog_5_method_12_code 41 = .ok (.aload_n 0, 1) := by decide +kernel
theorem d_M_isControlled_42 : decode prog_5_method_12_code 42 = .ok (.getfield 22, 3) := by decide +kernel
theorem d_M_isControlled_45 : decode prog_5_method_12_code 45 = .ok (.bipush 12, 2) := by decide +kernel
theorem d_M_isControlled_47 : decode prog_5_method_12_code 47 = .ok (.iload 6, 2) := by decide +kernel
theorem d_M_isControlled_49 : decode prog_5_method_12_code 49 = .ok (.imul, 1) := by decide +kernel
theorem d_M_isControlled_50 : decode prog_5_method_12_code 50 = .ok (.iload 4, 2) := by decide +kernel
theorem d_M_isControlled_52 : decode prog_5_method_12_code 52 = .ok (.iadd, 1) := by decide +kernel
theorem d_M_isControlled_53 : decode prog_5_method_12_code 53 = .ok (.iaload, 1) := by decide +kernel
theorem d_M_isControlled_54 : decode prog_5_method_12_code 54 = .ok (.imul, 1) := by decide +kernel
theorem d_M_isControlled_55 : decode prog_5_method_12_code 55 = .ok (.iadd, 1) := by decide +kernel
theorem d_M_isControlled_56 : decode prog_5_method_12_code 56 = .ok (.istore 5, 2) := by decide +kernel
theorem d_M_isControlled_58 : decode prog_5_method_12_code 58 = .ok (.iinc 6 1, 3) := by decide +kernel
theorem d_M_isControlled_61 : decode prog_5_method_12_code 61 = .ok (.goto (-35), 3) := by decide +kernel
theorem d_M_isControlled_64 : decode prog_5_method_12_code 64 = .ok (.iload 5, 2) := by decide +kernel
theorem d_M_isControlled_66 : decode prog_5_method_12_code 66 = .ok (.sipush 5000, 3) := by decide +kernel
theorem d_M_isControlled_69 : decode prog_5_method_12_code 69 = .ok (.if_icmp .le 10, 3) := by decide +kernel
theorem d_M_isControlled_72 : decode prog_5_method_12_code 72 = .ok (.iload_n 2, 1) := by decide +kernel
theorem d_M_isControlled_73 : decode prog_5_method_12_code 73 = .ok (.iconst 1, 1) := by decide +kernel
theorem d_M_isControlled_74 : decode prog_5_method_12_code 74 = .ok (.iload 4, 2) := by decide +kernel
theorem d_M_isControlled_76 : decode prog_5_method_12_code 76 = .ok (.ishl, 1) := by decide +kernel
theorem d_M_isControlled_77 : decode prog_5_method_12_code 77 = .ok (.ior, 1) := by decide +kernel
theorem d_M_isControlled_78 : decode prog_5_method_12_code 78 = .ok (.istore_n 2, 1) := by decide +kernel
theorem d_M_isControlled_79 : decode prog_5_method_12_code 79 = .ok (.iinc 4 1, 3) := by decide +kernel
theorem d_M_isControlled_82 : decode prog_5_method_12_code 82 = .ok (.goto (-69), 3) := by decide +kernel
theorem d_M_isControlled_85 : decode prog_5_method_12_code 85 = .ok (.iinc 3 1, 3) := by decide +kernel
theorem d_M_isControlled_88 : decode prog_5_method_12_code 88 = .ok (.goto (-84), 3) := by decide +kernel
theorem d_M_isControlled_91 : decode prog_5_method_12_code 91 = .ok (.iload_n 2, 1) := by decide +kernel
theorem d_M_isControlled_92 : decode prog_5_method_12_code 92 = .ok (.iload_n 1, 1) := by decide +kernel
theorem d_M_isControlled_93 : decode prog_5_method_12_code 93 = .ok (.ishr, 1) := by decide +kernel
theorem d_M_isControlled_94 : decode prog_5_method_12_code 94 = .ok (.iconst 1, 1) := by decide +kernel
theorem d_M_isControlled_95 : decode prog_5_method_12_code 95 = .ok (.iand, 1) := by decide +kernel
theorem d_M_isControlled_96 : decode prog_5_method_12_code 96 = .ok (.iconst 1, 1) := by decide +kernel
theorem d_M_isControlled_97 : decode prog_5_method_12_code 97 = .ok (.if_icmp .ne 7, 3) := by decide +kernel
theorem d_M_isControlled_100 : decode prog_5_method_12_code 100 = .ok (.iconst 1, 1) := by decide +kernel
theorem d_M_isControlled_101 : decode prog_5_method_12_code 101 = .ok (.goto 4, 3) := by decide +kernel
theorem d_M_isControlled_104 : decode prog_5_method_12_code 104 = .ok (.iconst 0, 1) := by decide +kernel
theorem d_M_isControlled_105 : decode prog_5_method_12_code 105 = .ok (.ireturn, 1) := by decide +kernel
abbrev WS_M_isControlled (cI cL cZ : ClassId)  (h0 a_currency a_sort a_closing a_average a_held a_sum a_told a_left a_step a_outside a_item : Nat) (v_thrown : Int32) (v_companies : Int32) (v_accounts : Int32) (v_done : Int32) (v_items : Int32) (v_held : (Nat → Int32)) : va_W := [(h0, .inr (3, [.int v_thrown, .int v_companies, .int v_accounts, .ref a_currency, .ref a_sort, .ref a_closing, .ref a_average, .ref a_held, .ref a_sum, .ref a_told, .int v_done, .ref a_left, .ref a_step, .ref a_outside, .int v_items, .ref a_item])), (a_held, .inl (cI, 144, .inl v_held))]
def wp_M_isControlled  (p0 : Int32) (v_held : (Nat → Int32)) (post : Int32 → Unit → Prop) : Prop := (∃ (I4 : Int32 → Int32 → Prop) (μ4 : Int32 → Int32 → Nat), I4 1 0 ∧ ∀ (l2_4 : Int32) (l3_4 : Int32), I4 l2_4 l3_4 → ((12 ≤ l3_4 → ((¬ ((l2_4 >>> (p0 &&& 31)) &&& 1) = 1 → post 0 ()) ∧ (((l2_4 >>> (p0 &&& 31)) &&& 1) = 1 → post 1 ()))) ∧ (¬ 12 ≤ l3_4 → (∃ (I13 : Int32 → Int32 → Prop) (μ13 : Int32 → Int32 → Nat), I13 l2_4 0 ∧ ∀ (l2_13 : Int32) (l4_13 : Int32), I13 l2_13 l4_13 → ((12 ≤ l4_13 → I4 l2_13 (l3_4 + 1) ∧ μ4 l2_13 (l3_4 + 1) < μ4 l2_4 l3_4) ∧ (¬ 12 ≤ l4_13 → (∃ (I26 : Int32 → Int32 → Prop) (μ26 : Int32 → Int32 → Nat), I26 0 0 ∧ ∀ (l5_26 : Int32) (l6_26 : Int32), I26 l5_26 l6_26 → ((12 ≤ l6_26 → ((l5_26 ≤ 5000 → I13 l2_13 (l4_13 + 1) ∧ μ13 l2_13 (l4_13 + 1) < μ13 l2_13 l4_13) ∧ (¬ l5_26 ≤ 5000 → (∀ x78 : Int32, x78 = (l2_13 ||| (1 <<< (l4_13 &&& 31))) → I13 x78 (l4_13 + 1) ∧ μ13 x78 (l4_13 + 1) < μ13 l2_13 l4_13)))) ∧ (¬ 12 ≤ l6_26 → (vp_in ((12 * l6_26) + l4_13) 144 ∧ (∀ x56 : Int32, x56 = (l5_26 + (((l2_13 >>> (l6_26 &&& 31)) &&& 1) * (v_held (Int32.toNatClampNeg ((12 * l6_26) + l4_13))))) → I26 x56 (l6_26 + 1) ∧ μ26 x56 (l6_26 + 1) < μ26 l5_26 l6_26)))))))))))
abbrev ws_M_isControlled : List Cond := .code y_M_isControlled prog_5_method_12_code 7 (some .boolean) :: kxW
abbrev rm_M_isControlled : Room := { frames := 0, cells := 0, slots := 0, locals := 0 }
abbrev QC_M_isControlled (dC : Nat → ClassId) (dI : Nat → Nat → Nat) (cI cL cZ : ClassId) (A : Nat → Prop)  (h0 a_currency a_sort a_closing a_average a_held a_sum a_told a_left a_step a_outside a_item : Nat) (v_thrown : Int32) (v_companies : Int32) (v_accounts : Int32) (v_done : Int32) (v_items : Int32) (v_held : (Nat → Int32)) (post : Int32 → Unit → Prop) : Array Value → State → Outcome → State → Prop := va_Qi post (fun (u : Unit) t => kx_B (dC, dI) classes A (WS_M_isControlled cI cL cZ h0 a_currency a_sort a_closing a_average a_held a_sum a_told a_left a_step a_outside a_item v_thrown v_companies v_accounts v_done v_items v_held) t) A
set_option maxHeartbeats 4000000 in
set_option maxRecDepth 100000 in
theorem c_M_isControlled (l : Launch) (dC : Nat → ClassId) (dI : Nat → Nat → Nat) (cI cL cZ : ClassId)  (h0 a_currency a_sort a_closing a_average a_held a_sum a_told a_left a_step a_outside a_item : Nat) (v_thrown : Int32) (v_companies : Int32) (v_accounts : Int32) (v_done : Int32) (v_items : Int32) (v_held : (Nat → Int32)) (sz : Nat) (p0 : Int32) {post : Int32 → Unit → Prop} (hw : wp_M_isControlled p0 v_held post) : Met l y_M_isControlled ws_M_isControlled rm_M_isControlled (kx_Pc (dC, dI) classes (kx_T cI cL cZ) (WS_M_isControlled cI cL cZ h0 a_currency a_sort a_closing a_average a_held a_sum a_told a_left a_step a_outside a_item v_thrown v_companies v_accounts v_done v_items v_held) sz [.ref h0, .int p0]) (QC_M_isControlled dC dI cI cL cZ (va_A (WS_M_isControlled cI cL cZ h0 a_currency a_sort a_closing a_average a_held a_sum a_told a_left a_step a_outside a_item v_thrown v_companies v_accounts v_done v_items v_held) sz) h0 a_currency a_sort a_closing a_average a_held a_sum a_told a_left a_step a_outside a_item v_thrown v_companies v_accounts v_done v_items v_held post) 0 0 (va_A (WS_M_isControlled cI cL cZ h0 a_currency a_sort a_closing a_average a_held a_sum a_told a_left a_step a_outside a_item v_thrown v_companies v_accounts v_done v_items v_held) sz) := by
  refine Met.ofW (cc := prog_5_method_12_code) (maxL := 7) (ret := (some .boolean)) (by decide) rfl ?_
  intro p e s m args below meth c s₁ B hml hv
  obtain ⟨rfl, hsz, hP, hK, hD0, hN⟩ := hv
  have hx := B.exec
  have hb := B.bytes
  have hr := B.returns
  have hts := atoms_spec (ws := ws_M_isControlled) B.pre
  have hown : s.vm.findClass R_M = some m.cls := findClass_of_methodNamed B.named
  have hlocks := B.notSynchronized
  subst hsz
  have hD := hD0.self (sz := s.heap.size)
  generalize hAe : va_A (WS_M_isControlled cI cL cZ h0 a_currency a_sort a_closing a_average a_held a_sum a_told a_left a_step a_outside a_item v_thrown v_companies v_accounts v_done v_items v_held) s.heap.size = A at hD ⊢
  have hA : ∀ q : Nat, s.heap.size ≤ q → A q := fun q h => by rw [← hAe]; exact Or.inr h
  have hS : va_S A s.heap s.heap [] := va_S.rf
  have hP : va_P (dC, dI) classes (WS_M_isControlled cI cL cZ h0 a_currency a_sort a_closing a_average a_held a_sum a_told a_left a_step a_outside a_item v_thrown v_companies v_accounts v_done v_items v_held) s.heap := hP
  have hl := lv_entry ([.ref h0, .int p0]) (n := 7) (Nat.le_of_ble_eq_true rfl)
  rw [lg_entry_eq]
  generalize (lg_sl ([.ref h0, .int p0]) ++ List.replicate (7 - (lg_sl ([.ref h0, .int p0])).length) Slot.unset).toArray = ls at hl ⊢
  have hl : lv_has ls 7 [(0, .ref h0), (1, .int p0)] := hl
  unfold wp_M_isControlled at hw
  refine (show ∀ (H : Heap) (locs : List Loc), va_P (dC, dI) classes (WS_M_isControlled cI cL cZ h0 a_currency a_sort a_closing a_average a_held a_sum a_told a_left a_step a_outside a_item v_thrown v_companies v_accounts v_done v_items v_held) H → va_S A s.heap H locs → W p l e (headSpec ws_M_isControlled rm_M_isControlled).room s m ([.ref h0, .int p0] : List Value).toArray below meth c H locs 0 0 (MQ below (QC_M_isControlled dC dI cI cL cZ A h0 a_currency a_sort a_closing a_average a_held a_sum a_told a_left a_step a_outside a_item v_thrown v_companies v_accounts v_done v_items v_held post) ([.ref h0, .int p0] : List Value).toArray s 0 0 A) (F0 m 0 ls []) from ?_) _ _ hP hS
  intro H locs hP hS
  refine lv_iconst (v := 1) hx hb d_M_isControlled_0 (by decide) ?_
  refine lv_istore_n (lv' := [(2, .int 1), (0, .ref h0), (1, .int p0)]) hx hb d_M_isControlled_1 rfl hl (by decide) rfl (fun ls hl => ?_)
  refine lv_iconst (v := 0) hx hb d_M_isControlled_2 (by decide) ?_
  refine lv_istore_n (lv' := [(3, .int 0), (2, .int 1), (0, .ref h0), (1, .int p0)]) hx hb d_M_isControlled_3 rfl hl (by decide) rfl (fun ls hl => ?_)
  have hl := lv_sub hl [2, 3, 1, 0] rfl
  obtain ⟨I4, μ4, hi4, hs4⟩ := hw
  have L4 : ∀ (n : Nat) (l2_4 : Int32) (l3_4 : Int32) (H : Heap) (locs : List Loc) (ls : Array Slot), μ4 l2_4 l3_4 < n → I4 l2_4 l3_4 → lv_has ls 7 [(0, .ref h0), (1, .int p0), (2, .int l2_4), (3, .int l3_4)] → va_P (dC, dI) classes (WS_M_isControlled cI cL cZ h0 a_currency a_sort a_closing a_average a_held a_sum a_told a_left a_step a_outside a_item v_thrown v_companies v_accounts v_done v_items v_held) H → va_D A (WS_M_isControlled cI cL cZ h0 a_currency a_sort a_closing a_average a_held a_sum a_told a_left a_step a_outside a_item v_thrown v_companies v_accounts v_done v_items v_held) → va_S A s.heap H locs → W p l e (headSpec ws_M_isControlled rm_M_isControlled).room s m ([.ref h0, .int p0] : List Value).toArray below meth c H locs 0 0 (MQ below (QC_M_isControlled dC dI cI cL cZ A h0 a_currency a_sort a_closing a_average a_held a_sum a_told a_left a_step a_outside a_item v_thrown v_companies v_accounts v_done v_items v_held post) ([.ref h0, .int p0] : List Value).toArray s 0 0 A) (F0 m 4 ls []) := by
    intro n
    induction n with
    | zero => intro l2_4 l3_4 H locs ls hn; exact absurd hn (Nat.not_lt_zero _)
    | succ n ih4 =>
      intro l2_4 l3_4 H locs ls hn4 hI hl hP hD hS
      have hw := hs4 l2_4 l3_4 hI
      refine lv_iload_n hx hb d_M_isControlled_4 rfl (lv_at hl 3 rfl) ?_
      refine lv_bipush (v := 12) hx hb d_M_isControlled_5 (by decide) ?_
      refine lv_icmp_ge (tgt := 91) hx hb d_M_isControlled_7 rfl (fun hc => ?_) (fun hc => ?_)
      ·
        have hw := hw.1 hc
        refine lv_iload_n hx hb d_M_isControlled_91 rfl (lv_at hl 2 rfl) ?_
        refine lv_iload_n hx hb d_M_isControlled_92 rfl (lv_at hl 1 rfl) ?_
        refine lv_ishr hx hb d_M_isControlled_93 ?_
        refine lv_iconst (v := 1) hx hb d_M_isControlled_94 (by decide) ?_
        refine lv_iand hx hb d_M_isControlled_95 ?_
        refine lv_iconst (v := 1) hx hb d_M_isControlled_96 (by decide) ?_
        refine lv_icmp_ne (tgt := 104) hx hb d_M_isControlled_97 rfl (fun hc => ?_) (fun hc => ?_)
        ·
          have hw := hw.1 hc
          refine lv_iconst (v := 0) hx hb d_M_isControlled_104 (by decide) ?_
          exact W.zret (v := 0) hx hb hr (by decide) (fun t ht hW => ⟨⟨0, (), rfl, hw, ⟨by rw [ht]; exact hP, hD⟩⟩, hS.F ht⟩) hS.2.2 d_M_isControlled_105
        ·
          have hw := hw.2 hc
          refine lv_iconst (v := 1) hx hb d_M_isControlled_100 (by decide) ?_
          refine lv_goto (tgt := 105) hx hb d_M_isControlled_101 rfl ?_
          exact W.zret (v := 1) hx hb hr (by decide) (fun t ht hW => ⟨⟨1, (), rfl, hw, ⟨by rw [ht]; exact hP, hD⟩⟩, hS.F ht⟩) hS.2.2 d_M_isControlled_105
      ·
        have hw := hw.2 hc
        refine lv_iconst (v := 0) hx hb d_M_isControlled_10 (by decide) ?_
        refine lv_istore (lv' := [(4, .int 0), (0, .ref h0), (1, .int p0), (2, .int l2_4), (3, .int l3_4)]) hx hb d_M_isControlled_11 hl (by decide) rfl (fun ls hl => ?_)
        have hl := lv_sub hl [1, 2, 3, 4, 0] rfl
        obtain ⟨I13, μ13, hi13, hs13⟩ := hw
        have L13 : ∀ (n : Nat) (l2_13 : Int32) (l4_13 : Int32) (H : Heap) (locs : List Loc) (ls : Array Slot), μ13 l2_13 l4_13 < n → I13 l2_13 l4_13 → lv_has ls 7 [(0, .ref h0), (1, .int p0), (2, .int l2_13), (3, .int l3_4), (4, .int l4_13)] → va_P (dC, dI) classes (WS_M_isControlled cI cL cZ h0 a_currency a_sort a_closing a_average a_held a_sum a_told a_left a_step a_outside a_item v_thrown v_companies v_accounts v_done v_items v_held) H → va_D A (WS_M_isControlled cI cL cZ h0 a_currency a_sort a_closing a_average a_held a_sum a_told a_left a_step a_outside a_item v_thrown v_companies v_accounts v_done v_items v_held) → va_S A s.heap H locs → W p l e (headSpec ws_M_isControlled rm_M_isControlled).room s m ([.ref h0, .int p0] : List Value).toArray below meth c H locs 0 0 (MQ below (QC_M_isControlled dC dI cI cL cZ A h0 a_currency a_sort a_closing a_average a_held a_sum a_told a_left a_step a_outside a_item v_thrown v_companies v_accounts v_done v_items v_held post) ([.ref h0, .int p0] : List Value).toArray s 0 0 A) (F0 m 13 ls []) := by
          intro n
          induction n with
          | zero => intro l2_13 l4_13 H locs ls hn; exact absurd hn (Nat.not_lt_zero _)
          | succ n ih13 =>
            intro l2_13 l4_13 H locs ls hn13 hI hl hP hD hS
            have hw := hs13 l2_13 l4_13 hI
            refine lv_iload hx hb d_M_isControlled_13 (lv_at hl 4 rfl) ?_
            refine lv_bipush (v := 12) hx hb d_M_isControlled_15 (by decide) ?_
            refine lv_icmp_ge (tgt := 85) hx hb d_M_isControlled_17 rfl (fun hc => ?_) (fun hc => ?_)
            ·
              have hw := hw.1 hc
              refine lv_iinc (v := (l3_4 + 1)) (lv' := [(3, .int (l3_4 + 1)), (0, .ref h0), (1, .int p0), (2, .int l2_13), (4, .int l4_13)]) hx hb d_M_isControlled_85 hl (k := 3) rfl rfl (by decide) rfl (fun ls hl => ?_)
              refine lv_goto (tgt := 4) hx hb d_M_isControlled_88 rfl ?_
              have hl := lv_sub hl [1, 2, 3, 0] rfl
              exact ih4 l2_13 (l3_4 + 1) _ _ _ (Nat.lt_of_lt_of_le hw.2 (Nat.le_of_lt_succ hn4)) hw.1 hl hP hD hS
            ·
              have hw := hw.2 hc
              refine lv_iconst (v := 0) hx hb d_M_isControlled_20 (by decide) ?_
              refine lv_istore (lv' := [(5, .int 0), (0, .ref h0), (1, .int p0), (2, .int l2_13), (3, .int l3_4), (4, .int l4_13)]) hx hb d_M_isControlled_21 hl (by decide) rfl (fun ls hl => ?_)
              refine lv_iconst (v := 0) hx hb d_M_isControlled_23 (by decide) ?_
              refine lv_istore (lv' := [(6, .int 0), (5, .int 0), (0, .ref h0), (1, .int p0), (2, .int l2_13), (3, .int l3_4), (4, .int l4_13)]) hx hb d_M_isControlled_24 hl (by decide) rfl (fun ls hl => ?_)
              have hl := lv_sub hl [2, 3, 4, 5, 6, 1, 0] rfl
              obtain ⟨I26, μ26, hi26, hs26⟩ := hw
              have L26 : ∀ (n : Nat) (l5_26 : Int32) (l6_26 : Int32) (H : Heap) (locs : List Loc) (ls : Array Slot), μ26 l5_26 l6_26 < n → I26 l5_26 l6_26 → lv_has ls 7 [(0, .ref h0), (1, .int p0), (2, .int l2_13), (3, .int l3_4), (4, .int l4_13), (5, .int l5_26), (6, .int l6_26)] → va_P (dC, dI) classes (WS_M_isControlled cI cL cZ h0 a_currency a_sort a_closing a_average a_held a_sum a_told a_left a_step a_outside a_item v_thrown v_companies v_accounts v_done v_items v_held) H → va_D A (WS_M_isControlled cI cL cZ h0 a_currency a_sort a_closing a_average a_held a_sum a_told a_left a_step a_outside a_item v_thrown v_companies v_accounts v_done v_items v_held) → va_S A s.heap H locs → W p l e (headSpec ws_M_isControlled rm_M_isControlled).room s m ([.ref h0, .int p0] : List Value).toArray below meth c H locs 0 0 (MQ below (QC_M_isControlled dC dI cI cL cZ A h0 a_currency a_sort a_closing a_average a_held a_sum a_told a_left a_step a_outside a_item v_thrown v_companies v_accounts v_done v_items v_held post) ([.ref h0, .int p0] : List Value).toArray s 0 0 A) (F0 m 26 ls []) := by
                intro n
                induction n with
                | zero => intro l5_26 l6_26 H locs ls hn; exact absurd hn (Nat.not_lt_zero _)
                | succ n ih26 =>
                  intro l5_26 l6_26 H locs ls hn26 hI hl hP hD hS
                  have hw := hs26 l5_26 l6_26 hI
                  refine lv_iload hx hb d_M_isControlled_26 (lv_at hl 6 rfl) ?_
                  refine lv_bipush (v := 12) hx hb d_M_isControlled_28 (by decide) ?_
                  refine lv_icmp_ge (tgt := 64) hx hb d_M_isControlled_30 rfl (fun hc => ?_) (fun hc => ?_)
                  ·
                    have hw := hw.1 hc
                    refine lv_iload hx hb d_M_isControlled_64 (lv_at hl 5 rfl) ?_
                    refine lv_sipush (v := 5000) hx hb d_M_isControlled_66 (by decide) ?_
                    refine lv_icmp_le (tgt := 79) hx hb d_M_isControlled_69 rfl (fun hc => ?_) (fun hc => ?_)
                    ·
                      have hw := hw.1 hc
                      refine lv_iinc (v := (l4_13 + 1)) (lv' := [(4, .int (l4_13 + 1)), (0, .ref h0), (1, .int p0), (2, .int l2_13), (3, .int l3_4), (5, .int l5_26), (6, .int l6_26)]) hx hb d_M_isControlled_79 hl (k := 4) rfl rfl (by decide) rfl (fun ls hl => ?_)
                      refine lv_goto (tgt := 13) hx hb d_M_isControlled_82 rfl ?_
                      have hl := lv_sub hl [1, 2, 3, 4, 0] rfl
                      exact ih13 l2_13 (l4_13 + 1) _ _ _ (Nat.lt_of_lt_of_le hw.2 (Nat.le_of_lt_succ hn13)) hw.1 hl hP hD hS
                    ·
                      have hw := hw.2 hc
                      refine lv_iload_n hx hb d_M_isControlled_72 rfl (lv_at hl 2 rfl) ?_
                      refine lv_iconst (v := 1) hx hb d_M_isControlled_73 (by decide) ?_
                      refine lv_iload hx hb d_M_isControlled_74 (lv_at hl 4 rfl) ?_
                      refine lv_ishl hx hb d_M_isControlled_76 ?_
                      refine lv_ior hx hb d_M_isControlled_77 ?_
                      refine lv_topi (fun x78 e78 => ?_)
                      have hw := hw x78 e78
                      refine lv_istore_n (lv' := [(2, .int x78), (0, .ref h0), (1, .int p0), (3, .int l3_4), (4, .int l4_13), (5, .int l5_26), (6, .int l6_26)]) hx hb d_M_isControlled_78 rfl hl (by decide) rfl (fun ls hl => ?_)
                      refine lv_iinc (v := (l4_13 + 1)) (lv' := [(4, .int (l4_13 + 1)), (2, .int x78), (0, .ref h0), (1, .int p0), (3, .int l3_4), (5, .int l5_26), (6, .int l6_26)]) hx hb d_M_isControlled_79 hl (k := 4) rfl rfl (by decide) rfl (fun ls hl => ?_)
                      refine lv_goto (tgt := 13) hx hb d_M_isControlled_82 rfl ?_
                      have hl := lv_sub hl [2, 3, 1, 4, 0] rfl
                      exact ih13 x78 (l4_13 + 1) _ _ _ (Nat.lt_of_lt_of_le hw.2 (Nat.le_of_lt_succ hn13)) hw.1 hl hP hD hS
                  ·
                    have hw := hw.2 hc
                    refine lv_iload hx hb d_M_isControlled_33 (lv_at hl 5 rfl) ?_
                    refine lv_iload_n hx hb d_M_isControlled_35 rfl (lv_at hl 2 rfl) ?_
                    refine lv_iload hx hb d_M_isControlled_36 (lv_at hl 6 rfl) ?_
                    refine lv_ishr hx hb d_M_isControlled_38 ?_
                    refine lv_iconst (v := 1) hx hb d_M_isControlled_39 (by decide) ?_
                    refine lv_iand hx hb d_M_isControlled_40 ?_
                    refine lv_aload_n hx hb d_M_isControlled_41 rfl (lv_at hl 0 rfl) ?_
                    refine va_get (D := (dC, dI)) (ci := 3) (v := .ref a_held) (C := R_M) (T := F_M) (N := 16) hx hb hts (kx_in in_M) hown hK hP 0 rfl rfl 7 (by decide) (hts _ (kx_w iw_482)) (fun _ h9 => h9) rfl d_M_isControlled_42 ?_
                    refine lv_bipush (v := 12) hx hb d_M_isControlled_45 (by decide) ?_
                    refine lv_iload hx hb d_M_isControlled_47 (lv_at hl 6 rfl) ?_
                    refine lv_imul hx hb d_M_isControlled_49 ?_
                    refine lv_iload hx hb d_M_isControlled_50 (lv_at hl 4 rfl) ?_
                    refine lv_iadd hx hb d_M_isControlled_52 ?_
                    obtain ⟨hi, hw⟩ := hw
                    refine va_iald hx hb hK hP 1 0 rfl rfl hi d_M_isControlled_53 ?_
                    refine lv_imul hx hb d_M_isControlled_54 ?_
                    refine lv_iadd hx hb d_M_isControlled_55 ?_
                    refine lv_topi (fun x56 e56 => ?_)
                    have hw := hw x56 e56
                    refine lv_istore (lv' := [(5, .int x56), (0, .ref h0), (1, .int p0), (2, .int l2_13), (3, .int l3_4), (4, .int l4_13), (6, .int l6_26)]) hx hb d_M_isControlled_56 hl (by decide) rfl (fun ls hl => ?_)
                    refine lv_iinc (v := (l6_26 + 1)) (lv' := [(6, .int (l6_26 + 1)), (5, .int x56), (0, .ref h0), (1, .int p0), (2, .int l2_13), (3, .int l3_4), (4, .int l4_13)]) hx hb d_M_isControlled_58 hl (k := 6) rfl rfl (by decide) rfl (fun ls hl => ?_)
                    refine lv_goto (tgt := 26) hx hb d_M_isControlled_61 rfl ?_
                    have hl := lv_sub hl [2, 3, 4, 5, 6, 1, 0] rfl
                    exact ih26 x56 (l6_26 + 1) _ _ _ (Nat.lt_of_lt_of_le hw.2 (Nat.le_of_lt_succ hn26)) hw.1 hl hP hD hS
              exact L26 _ 0 0 _ _ _ (Nat.lt_succ_self _) hi26 hl hP hD hS
        exact L13 _ l2_4 0 _ _ _ (Nat.lt_succ_self _) hi13 hl hP hD hS
  exact L4 _ 1 0 _ _ _ (Nat.lt_succ_self _) hi4 hl hP hD hS
/-! ConsolidationDeskModel.rate(III)Z -/
abbrev y_M_rate : MethodName := ⟨"ConsolidationDeskModel", "rate", "(III)Z"⟩
theorem d_M_rate_0 : decode prog_5_method_13_code 0 = .ok (.aload_n 0, 1) := by decide +kernel
theorem d_M_rate_1 : decode prog_5_method_13_code 1 = .ok (.iconst 0, 1) := by decide +kernel
theorem d_M_rate_2 : decode prog_5_method_13_code 2 = .ok (.putfield 49, 3) := by decide +kernel
theorem d_M_rate_5 : decode prog_5_method_13_code 5 = .ok (.iload_n 1, 1) := by decide +kernel
theorem d_M_rate_6 : decode prog_5_method_13_code 6 = .ok (.iconst 1, 1) := by decide +kernel
theorem d_M_rate_7 : decode prog_5_method_13_code 7 = .ok (.if_icmp .lt 30, 3) := by decide +kernel
theorem d_M_rate_10 : decode prog_5_method_13_code 10 = .ok (.iload_n 1, 1) := by decide +kernel
theorem d_M_rate_11 : decode prog_5_method_13_code 11 = .ok (.iconst 3, 1) := by decide +kernel
theorem d_M_rate_12 : decode prog_5_method_13_code 12 = .ok (.if_icmp .gt 25, 3) := by decide +kernel
theorem d_M_rate_15 : decode prog_5_method_13_code 15 = .ok (.iload_n 2, 1) := by decide +kernel
theorem d_M_rate_16 : decode prog_5_method_13_code 16 = .ok (.iconst 1, 1) := by decide +kernel
theorem d_M_rate_17 : decode prog_5_method_13_code 17 = .ok (.if_icmp .lt 20, 3) := by decide +kernel
theorem d_M_rate_20 : decode prog_5_method_13_code 20 = .ok (.iload_n 2, 1) := by decide +kernel
theorem d_M_rate_21 : decode prog_5_method_13_code 21 = .ok (.ldc 67, 2) := by decide +kernel
theorem d_M_rate_23 : decode prog_5_method_13_code 23 = .ok (.if_icmp .gt 14, 3) := by decide +kernel
theorem d_M_rate_26 : decode prog_5_method_13_code 26 = .ok (.iload_n 3, 1) := by decide +kernel
theorem d_M_rate_27 : decode prog_5_method_13_code 27 = .ok (.iconst 1, 1) := by decide +kernel
theorem d_M_rate_28 : decode prog_5_method_13_code 28 = .ok (.if_icmp .lt 9, 3) := by decide +kernel
theorem d_M_rate_31 : decode prog_5_method_13_code 31 = .ok (.iload_n 3, 1) := by decide +kernel
theorem d_M_rate_32 : decode prog_5_method_13_code 32 = .ok (.ldc 67, 2) := by decide +kernel
theorem d_M_rate_34 : decode prog_5_method_13_code 34 = .ok (.if_icmp .le 5, 3) := by decide +kernel
theorem d_M_rate_37 : decode prog_5_method_13_code 37 = .ok (.iconst 0, 1) := by decide +kernel
theorem d_M_rate_38 : decode prog_5_method_13_code 38 = .ok (.ireturn, 1) := by decide +kernel
theorem d_M_rate_39 : decode prog_5_method_13_code 39 = .ok (.aload_n 0, 1) := by decide +kernel
theorem d_M_rate_40 : decode prog_5_method_13_code 40 = .ok (.getfield 16, 3) := by decide +kernel
theorem d_M_rate_43 : decode prog_5_method_13_code 43 = .ok (.iload_n 1, 1) := by decide +kernel
theorem d_M_rate_44 : decode prog_5_method_13_code 44 = .ok (.iload_n 2, 1) := by decide +kernel
theorem d_M_rate_45 : decode prog_5_method_13_code 45 = .ok (.iastore, 1) := by decide +kernel
theorem d_M_rate_46 : decode prog_5_method_13_code 46 = .ok (.aload_n 0, 1) := by decide +kernel
theorem d_M_rate_47 : decode prog_5_method_13_code 47 = .ok (.getfield 19, 3) := by decide +kernel
theorem d_M_rate_50 : decode prog_5_method_13_code 50 = .ok (.iload_n 1, 1) := by decide +kernel
theorem d_M_rate_51 : decode prog_5_method_13_code 51 = .ok (.iload_n 3, 1) := by decide +kernel
theorem d_M_rate_52 : decode prog_5_method_13_code 52 = .ok (.iastore, 1) := by decide +kernel
theorem d_M_rate_53 : decode prog_5_method_13_code 53 = .ok (.iconst 1, 1) := by decide +kernel
theorem d_M_rate_54 : decode prog_5_method_13_code 54 = .ok (.ireturn, 1) := by decide +kernel
abbrev WS_M_rate (cI cL cZ : ClassId)  (h0 a_currency a_sort a_closing a_average a_held a_sum a_told a_left a_step a_outside a_item : Nat) (v_thrown : Int32) (v_companies : Int32) (v_accounts : Int32) (v_done : Int32) (v_items : Int32) (v_closing : (Nat → Int32)) (v_average : (Nat → Int32)) : va_W := [(h0, .inr (3, [.int v_thrown, .int v_companies, .int v_accounts, .ref a_currency, .ref a_sort, .ref a_closing, .ref a_average, .ref a_held, .ref a_sum, .ref a_told, .int v_done, .ref a_left, .ref a_step, .ref a_outside, .int v_items, .ref a_item])), (a_closing, .inl (cI, 4, .inl v_closing)), (a_average, .inl (cI, 4, .inl v_average))]
def wp_M_rate  (p0 : Int32) (p1 : Int32) (p2 : Int32) (v_thrown : Int32) (v_closing : (Nat → Int32)) (v_average : (Nat → Int32)) (post : Int32 → (Int32 × (Nat → Int32) × (Nat → Int32)) → Prop) : Prop := ((p0 < 1 → post 0 (0, v_closing, v_average)) ∧ (¬ p0 < 1 → ((3 < p0 → post 0 (0, v_closing, v_average)) ∧ (¬ 3 < p0 → ((p1 < 1 → post 0 (0, v_closing, v_average)) ∧ (¬ p1 < 1 → ((1000000000 < p1 → post 0 (0, v_closing, v_average)) ∧ (¬ 1000000000 < p1 → ((p2 < 1 → post 0 (0, v_closing, v_average)) ∧ (¬ p2 < 1 → ((p2 ≤ 1000000000 → (vp_in p0 4 ∧ (vp_in p0 4 ∧ post 1 (0, (upd v_closing p0.toNatClampNeg p1), (upd v_average p0.toNatClampNeg p2))))) ∧ (¬ p2 ≤ 1000000000 → post 0 (0, v_closing, v_average)))))))))))))
abbrev ws_M_rate : List Cond := .code y_M_rate prog_5_method_13_code 4 (some .boolean) :: kxW
abbrev rm_M_rate : Room := { frames := 0, cells := 0, slots := 0, locals := 0 }
abbrev QC_M_rate (dC : Nat → ClassId) (dI : Nat → Nat → Nat) (cI cL cZ : ClassId) (A : Nat → Prop)  (h0 a_currency a_sort a_closing a_average a_held a_sum a_told a_left a_step a_outside a_item : Nat) (v_thrown : Int32) (v_companies : Int32) (v_accounts : Int32) (v_done : Int32) (v_items : Int32) (v_closing : (Nat → Int32)) (v_average : (Nat → Int32)) (post : Int32 → (Int32 × (Nat → Int32) × (Nat → Int32)) → Prop) : Array Value → State → Outcome → State → Prop := va_Qi post (fun (u : Int32 × (Nat → Int32) × (Nat → Int32)) t => kx_B (dC, dI) classes A (WS_M_rate cI cL cZ h0 a_currency a_sort a_closing a_average a_held a_sum a_told a_left a_step a_outside a_item u.1 v_companies v_accounts v_done v_items u.2.1 u.2.2) t) A
set_option maxHeartbeats 4000000 in
set_option maxRecDepth 100000 in
theorem c_M_rate (l : Launch) (dC : Nat → ClassId) (dI : Nat → Nat → Nat) (cI cL cZ : ClassId)  (h0 a_currency a_sort a_closing a_average a_held a_sum a_told a_left a_step a_outside a_item : Nat) (v_thrown : Int32) (v_companies : Int32) (v_accounts : Int32) (v_done : Int32) (v_items : Int32) (v_closing : (Nat → Int32)) (v_average : (Nat → Int32)) (sz : Nat) (p0 : Int32) (p1 : Int32) (p2 : Int32) {post : Int32 → (Int32 × (Nat → Int32) × (Nat → Int32)) → Prop} (hw : wp_M_rate p0 p1 p2 v_thrown v_closing v_average post) : Met l y_M_rate ws_M_rate rm_M_rate (kx_Pc (dC, dI) classes (kx_T cI cL cZ) (WS_M_rate cI cL cZ h0 a_currency a_sort a_closing a_average a_held a_sum a_told a_left a_step a_outside a_item v_thrown v_companies v_accounts v_done v_items v_closing v_average) sz [.ref h0, .int p0, .int p1, .int p2]) (QC_M_rate dC dI cI cL cZ (va_A (WS_M_rate cI cL cZ h0 a_currency a_sort a_closing a_average a_held a_sum a_told a_left a_step a_outside a_item v_thrown v_companies v_accounts v_done v_items v_closing v_average) sz) h0 a_currency a_sort a_closing a_average a_held a_sum a_told a_left a_step a_outside a_item v_thrown v_companies v_accounts v_done v_items v_closing v_average post) 0 0 (va_A (WS_M_rate cI cL cZ h0 a_currency a_sort a_closing a_average a_held a_sum a_told a_left a_step a_outside a_item v_thrown v_companies v_accounts v_done v_items v_closing v_average) sz) := by
  refine Met.ofW (cc := prog_5_method_13_code) (maxL := 4) (ret := (some .boolean)) (by decide) rfl ?_
  intro p e s m args below meth c s₁ B hml hv
  obtain ⟨rfl, hsz, hP, hK, hD0, hN⟩ := hv
  have hx := B.exec
  have hb := B.bytes
  have hr := B.returns
  have hts := atoms_spec (ws := ws_M_rate) B.pre
  have hown : s.vm.findClass R_M = some m.cls := findClass_of_methodNamed B.named
  have hlocks := B.notSynchronized
  subst hsz
  have hD := hD0.self (sz := s.heap.size)
  generalize hAe : va_A (WS_M_rate cI cL cZ h0 a_currency a_sort a_closing a_average a_held a_sum a_told a_left a_step a_outside a_item v_thrown v_companies v_accounts v_done v_items v_closing v_average) s.heap.size = A at hD ⊢
  have hA : ∀ q : Nat, s.heap.size ≤ q → A q := fun q h => by rw [← hAe]; exact Or.inr h
  have hS : va_S A s.heap s.heap [] := va_S.rf
  have hP : va_P (dC, dI) classes (WS_M_rate cI cL cZ h0 a_currency a_sort a_closing a_average a_held a_sum a_told a_left a_step a_outside a_item v_thrown v_companies v_accounts v_done v_items v_closing v_average) s.heap := hP
  have hl := lv_entry ([.ref h0, .int p0, .int p1, .int p2]) (n := 4) (Nat.le_of_ble_eq_true rfl)
  rw [lg_entry_eq]
  generalize (lg_sl ([.ref h0, .int p0, .int p1, .int p2]) ++ List.replicate (4 - (lg_sl ([.ref h0, .int p0, .int p1, .int p2])).length) Slot.unset).toArray = ls at hl ⊢
  have hl : lv_has ls 4 [(0, .ref h0), (1, .int p0), (2, .int p1), (3, .int p2)] := hl
  unfold wp_M_rate at hw
  refine (show ∀ (H : Heap) (locs : List Loc), va_P (dC, dI) classes (WS_M_rate cI cL cZ h0 a_currency a_sort a_closing a_average a_held a_sum a_told a_left a_step a_outside a_item v_thrown v_companies v_accounts v_done v_items v_closing v_average) H → va_S A s.heap H locs → W p l e (headSpec ws_M_rate rm_M_rate).room s m ([.ref h0, .int p0, .int p1, .int p2] : List Value).toArray below meth c H locs 0 0 (MQ below (QC_M_rate dC dI cI cL cZ A h0 a_currency a_sort a_closing a_average a_held a_sum a_told a_left a_step a_outside a_item v_thrown v_companies v_accounts v_done v_items v_closing v_average post) ([.ref h0, .int p0, .int p1, .int p2] : List Value).toArray s 0 0 A) (F0 m 0 ls []) from ?_) _ _ hP hS
  intro H locs hP hS
  refine lv_aload_n hx hb d_M_rate_0 rfl (lv_at hl 0 rfl) ?_
  refine lv_iconst (v := 0) hx hb d_M_rate_1 (by decide) ?_
  refine va_put (D := (dC, dI)) (ci := 3) (v := .int 0) (ty := .int) (C := R_M) (T := F_M) (N := 16) hx hb hts (kx_in in_M) t_M t_M_ok n_M hown hK hP hD hS 0 rfl rfl 0 (by decide) (hts _ (kx_w iw_475)) (fun _ h9 => h9) rfl (by decide +kernel) rfl rfl (Nat.le_of_ble_eq_true rfl) d_M_rate_2 (fun H locs hP hD hS => ?_)
  have hP : va_P (dC, dI) classes (WS_M_rate cI cL cZ h0 a_currency a_sort a_closing a_average a_held a_sum a_told a_left a_step a_outside a_item 0 v_companies v_accounts v_done v_items v_closing v_average) H := hP
  have hD : va_D A (WS_M_rate cI cL cZ h0 a_currency a_sort a_closing a_average a_held a_sum a_told a_left a_step a_outside a_item 0 v_companies v_accounts v_done v_items v_closing v_average) := hD
  refine lv_iload_n hx hb d_M_rate_5 rfl (lv_at hl 1 rfl) ?_
  refine lv_iconst (v := 1) hx hb d_M_rate_6 (by decide) ?_
  refine lv_icmp_lt (tgt := 37) hx hb d_M_rate_7 rfl (fun hc => ?_) (fun hc => ?_)
  ·
    have hw := hw.1 hc
    refine lv_iconst (v := 0) hx hb d_M_rate_37 (by decide) ?_
    exact W.zret (v := 0) hx hb hr (by decide) (fun t ht hW => ⟨⟨0, (0, v_closing, v_average), rfl, hw, ⟨by rw [ht]; exact hP, hD⟩⟩, hS.F ht⟩) hS.2.2 d_M_rate_38
  ·
    have hw := hw.2 hc
    refine lv_iload_n hx hb d_M_rate_10 rfl (lv_at hl 1 rfl) ?_
    refine lv_iconst (v := 3) hx hb d_M_rate_11 (by decide) ?_
    refine lv_icmp_gt (tgt := 37) hx hb d_M_rate_12 rfl (fun hc => ?_) (fun hc => ?_)
    ·
      have hw := hw.1 hc
      refine lv_iconst (v := 0) hx hb d_M_rate_37 (by decide) ?_
      exact W.zret (v := 0) hx hb hr (by decide) (fun t ht hW => ⟨⟨0, (0, v_closing, v_average), rfl, hw, ⟨by rw [ht]; exact hP, hD⟩⟩, hS.F ht⟩) hS.2.2 d_M_rate_38
    ·
      have hw := hw.2 hc
      refine lv_iload_n hx hb d_M_rate_15 rfl (lv_at hl 2 rfl) ?_
      refine lv_iconst (v := 1) hx hb d_M_rate_16 (by decide) ?_
      refine lv_icmp_lt (tgt := 37) hx hb d_M_rate_17 rfl (fun hc => ?_) (fun hc => ?_)
      ·
        have hw := hw.1 hc
        refine lv_iconst (v := 0) hx hb d_M_rate_37 (by decide) ?_
        exact W.zret (v := 0) hx hb hr (by decide) (fun t ht hW => ⟨⟨0, (0, v_closing, v_average), rfl, hw, ⟨by rw [ht]; exact hP, hD⟩⟩, hS.F ht⟩) hS.2.2 d_M_rate_38
      ·
        have hw := hw.2 hc
        refine lv_iload_n hx hb d_M_rate_20 rfl (lv_at hl 2 rfl) ?_
        refine lv_ldc (v := 1000000000) hx hb hown (hts _ (kx_w iw_556)) d_M_rate_21 ?_
        refine lv_icmp_gt (tgt := 37) hx hb d_M_rate_23 rfl (fun hc => ?_) (fun hc => ?_)
        ·
          have hw := hw.1 hc
          refine lv_iconst (v := 0) hx hb d_M_rate_37 (by decide) ?_
          exact W.zret (v := 0) hx hb hr (by decide) (fun t ht hW => ⟨⟨0, (0, v_closing, v_average), rfl, hw, ⟨by rw [ht]; exact hP, hD⟩⟩, hS.F ht⟩) hS.2.2 d_M_rate_38
        ·
          have hw := hw.2 hc
          refine lv_iload_n hx hb d_M_rate_26 rfl (lv_at hl 3 rfl) ?_
          refine lv_iconst (v := 1) hx hb d_M_rate_27 (by decide) ?_
          refine lv_icmp_lt (tgt := 37) hx hb d_M_rate_28 rfl (fun hc => ?_) (fun hc => ?_)
          ·
            have hw := hw.1 hc
            refine lv_iconst (v := 0) hx hb d_M_rate_37 (by decide) ?_
            exact W.zret (v := 0) hx hb hr (by decide) (fun t ht hW => ⟨⟨0, (0, v_closing, v_average), rfl, hw, ⟨by rw [ht]; exact hP, hD⟩⟩, hS.F ht⟩) hS.2.2 d_M_rate_38
          ·
            have hw := hw.2 hc
            refine lv_iload_n hx hb d_M_rate_31 rfl (lv_at hl 3 rfl) ?_
            refine lv_ldc (v := 1000000000) hx hb hown (hts _ (kx_w iw_556)) d_M_rate_32 ?_
            refine lv_icmp_le (tgt := 39) hx hb d_M_rate_34 rfl (fun hc => ?_) (fun hc => ?_)
            ·
              have hw := hw.1 hc
              refine lv_aload_n hx hb d_M_rate_39 rfl (lv_at hl 0 rfl) ?_
              refine va_get (D := (dC, dI)) (ci := 3) (v := .ref a_closing) (C := R_M) (T := F_M) (N := 16) hx hb hts (kx_in in_M) hown hK hP 0 rfl rfl 5 (by decide) (hts _ (kx_w iw_480)) (fun _ h9 => h9) rfl d_M_rate_40 ?_
              refine lv_iload_n hx hb d_M_rate_43 rfl (lv_at hl 1 rfl) ?_
              refine lv_iload_n hx hb d_M_rate_44 rfl (lv_at hl 2 rfl) ?_
              obtain ⟨hi, hw⟩ := hw
              refine va_iast hx hb hK hP hD hS 1 0 rfl rfl hi d_M_rate_45 (fun H locs hP hD hS => ?_)
              have hP : va_P (dC, dI) classes (WS_M_rate cI cL cZ h0 a_currency a_sort a_closing a_average a_held a_sum a_told a_left a_step a_outside a_item 0 v_companies v_accounts v_done v_items (upd v_closing p0.toNatClampNeg p1) v_average) H := hP
              have hD : va_D A (WS_M_rate cI cL cZ h0 a_currency a_sort a_closing a_average a_held a_sum a_told a_left a_step a_outside a_item 0 v_companies v_accounts v_done v_items (upd v_closing p0.toNatClampNeg p1) v_average) := hD
              refine lv_aload_n hx hb d_M_rate_46 rfl (lv_at hl 0 rfl) ?_
              refine va_get (D := (dC, dI)) (ci := 3) (v := .ref a_average) (C := R_M) (T := F_M) (N := 16) hx hb hts (kx_in in_M) hown hK hP 0 rfl rfl 6 (by decide) (hts _ (kx_w iw_481)) (fun _ h9 => h9) rfl d_M_rate_47 ?_
              refine lv_iload_n hx hb d_M_rate_50 rfl (lv_at hl 1 rfl) ?_
              refine lv_iload_n hx hb d_M_rate_51 rfl (lv_at hl 3 rfl) ?_
              obtain ⟨hi, hw⟩ := hw
              refine va_iast hx hb hK hP hD hS 2 0 rfl rfl hi d_M_rate_52 (fun H locs hP hD hS => ?_)
              have hP : va_P (dC, dI) classes (WS_M_rate cI cL cZ h0 a_currency a_sort a_closing a_average a_held a_sum a_told a_left a_step a_outside a_item 0 v_companies v_accounts v_done v_items (upd v_closing p0.toNatClampNeg p1) (upd v_average p0.toNatClampNeg p2)) H := hP
              have hD : va_D A (WS_M_rate cI cL cZ h0 a_currency a_sort a_closing a_average a_held a_sum a_told a_left a_step a_outside a_item 0 v_companies v_accounts v_done v_items (upd v_closing p0.toNatClampNeg p1) (upd v_average p0.toNatClampNeg p2)) := hD
              refine lv_iconst (v := 1) hx hb d_M_rate_53 (by decide) ?_
              exact W.zret (v := 1) hx hb hr (by decide) (fun t ht hW => ⟨⟨1, (0, (upd v_closing p0.toNatClampNeg p1), (upd v_average p0.toNatClampNeg p2)), rfl, hw, ⟨by rw [ht]; exact hP, hD⟩⟩, hS.F ht⟩) hS.2.2 d_M_rate_54
            ·
              have hw := hw.2 hc
              refine lv_iconst (v := 0) hx hb d_M_rate_37 (by decide) ?_
              exact W.zret (v := 0) hx hb hr (by decide) (fun t ht hW => ⟨⟨0, (0, v_closing, v_average), rfl, hw, ⟨by rw [ht]; exact hP, hD⟩⟩, hS.F ht⟩) hS.2.2 d_M_rate_38
/-! ConsolidationDeskModel.isPartner(II)Z -/
abbrev y_M_isPartner : MethodName := ⟨"ConsolidationDeskModel", "isPartner", "(II)Z"⟩
theorem d_M_isPartner_0 : decode prog_5_method_14_code 0 = .ok (.iload_n 2, 1) := by decide +kernel
theorem d_M_isPartner_1 : decode prog_5_method_14_code 1 = .ok (.iconst (-1), 1) := by decide +kernel
theorem d_M_isPartner_2 : decode prog_5_method_14_code 2 = .ok (.if_icmp .eq 16, 3) := by decide +kernel
theorem d_M_isPartner_5 : decode prog_5_method_14_code 5 = .ok (.aload_n 0, 1) := by decide +kernel
theorem d_M_isPartner_6 : decode prog_5_method_14_code 6 = .ok (.iload_n 2, 1) := by decide +kernel
theorem d_M_isPartner_7 : decode prog_5_method_14_code 7 = .ok (.invokevirtual 59, 3) := by decide +kernel
theorem d_M_isPartner_10 : decode prog_5_method_14_code 10 = .ok (.ifCond .eq 12, 3) := by decide +kernel
theorem d_M_isPartner_13 : decode prog_5_method_14_code 13 = .ok (.iload_n 2, 1) := by decide +kernel
theorem d_M_isPartner_14 : decode prog_5_method_14_code 14 = .ok (.iload_n 1, 1) := by decide +kernel
theorem d_M_isPartner_15 : decode prog_5_method_14_code 15 = .ok (.if_icmp .eq 7, 3) := by decide +kernel
theorem d_M_isPartner_18 : decode prog_5_method_14_code 18 = .ok (.iconst 1, 1) := by decide +kernel
theorem d_M_isPartner_19 : decode prog_5_method_14_code 19 = .ok (.goto 4, 3) := by decide +kernel
theorem d_M_isPartner_22 : decode prog_5_method_14_code 22 = .ok (.iconst 0, 1) := by decide +kernel
theorem d_M_isPartner_23 : decode prog_5_method_14_code 23 = .ok (.ireturn, 1) := by decide +kernel
abbrev WS_M_isPartner (cI cL cZ : ClassId)  (h0 a_currency a_sort a_closing a_average a_held a_sum a_told a_left a_step a_outside a_item : Nat) (v_thrown : Int32) (v_companies : Int32) (v_accounts : Int32) (v_done : Int32) (v_items : Int32) : va_W := [(h0, .inr (3, [.int v_thrown, .int v_companies, .int v_accounts, .ref a_currency, .ref a_sort, .ref a_closing, .ref a_average, .ref a_held, .ref a_sum, .ref a_told, .int v_done, .ref a_left, .ref a_step, .ref a_outside, .int v_items, .ref a_item]))]
def wp_M_isPartner  (p0 : Int32) (p1 : Int32) (v_companies : Int32) (post : Int32 → Unit → Prop) : Prop := ((p1 = (-1) → post 1 ()) ∧ (¬ p1 = (-1) → (wp_M_isCompany p1 v_companies (fun (r7 : Int32) (u7 : Unit) => ((r7 = 0 → post 0 ()) ∧ (¬ r7 = 0 → ((p1 = p0 → post 0 ()) ∧ (¬ p1 = p0 → post 1 ()))))))))
abbrev ws_M_isPartner : List Cond := .code y_M_isPartner prog_5_method_14_code 3 (some .boolean) :: kxW
abbrev rm_M_isPartner : Room := { frames := 1, cells := 0, slots := 0, locals := 21 }
abbrev QC_M_isPartner (dC : Nat → ClassId) (dI : Nat → Nat → Nat) (cI cL cZ : ClassId) (A : Nat → Prop)  (h0 a_currency a_sort a_closing a_average a_held a_sum a_told a_left a_step a_outside a_item : Nat) (v_thrown : Int32) (v_companies : Int32) (v_accounts : Int32) (v_done : Int32) (v_items : Int32) (post : Int32 → Unit → Prop) : Array Value → State → Outcome → State → Prop := va_Qi post (fun (u : Unit) t => kx_B (dC, dI) classes A (WS_M_isPartner cI cL cZ h0 a_currency a_sort a_closing a_average a_held a_sum a_told a_left a_step a_outside a_item v_thrown v_companies v_accounts v_done v_items) t) A
set_option maxHeartbeats 4000000 in
set_option maxRecDepth 100000 in
theorem c_M_isPartner (l : Launch) (dC : Nat → ClassId) (dI : Nat → Nat → Nat) (cI cL cZ : ClassId)  (h0 a_currency a_sort a_closing a_average a_held a_sum a_told a_left a_step a_outside a_item : Nat) (v_thrown : Int32) (v_companies : Int32) (v_accounts : Int32) (v_done : Int32) (v_items : Int32) (sz : Nat) (p0 : Int32) (p1 : Int32) {post : Int32 → Unit → Prop} (hw : wp_M_isPartner p0 p1 v_companies post) : Met l y_M_isPartner ws_M_isPartner rm_M_isPartner (kx_Pc (dC, dI) classes (kx_T cI cL cZ) (WS_M_isPartner cI cL cZ h0 a_currency a_sort a_closing a_average a_held a_sum a_told a_left a_step a_outside a_item v_thrown v_companies v_accounts v_done v_items) sz [.ref h0, .int p0, .int p1]) (QC_M_isPartner dC dI cI cL cZ (va_A (WS_M_isPartner cI cL cZ h0 a_currency a_sort a_closing a_average a_held a_sum a_told a_left a_step a_outside a_item v_thrown v_companies v_accounts v_done v_items) sz) h0 a_currency a_sort a_closing a_average a_held a_sum a_told a_left a_step a_outside a_item v_thrown v_companies v_accounts v_done v_items post) 0 0 (va_A (WS_M_isPartner cI cL cZ h0 a_currency a_sort a_closing a_average a_held a_sum a_told a_left a_step a_outside a_item v_thrown v_companies v_accounts v_done v_items) sz) := by
  refine Met.ofW (cc := prog_5_method_14_code) (maxL := 3) (ret := (some .boolean)) (by decide) rfl ?_
  intro p e s m args below meth c s₁ B hml hv
  obtain ⟨rfl, hsz, hP, hK, hD0, hN⟩ := hv
  have hx := B.exec
  have hb := B.bytes
  have hr := B.returns
  have hts := atoms_spec (ws := ws_M_isPartner) B.pre
  have hown : s.vm.findClass R_M = some m.cls := findClass_of_methodNamed B.named
  have hlocks := B.notSynchronized
  subst hsz
  have hD := hD0.self (sz := s.heap.size)
  generalize hAe : va_A (WS_M_isPartner cI cL cZ h0 a_currency a_sort a_closing a_average a_held a_sum a_told a_left a_step a_outside a_item v_thrown v_companies v_accounts v_done v_items) s.heap.size = A at hD ⊢
  have hA : ∀ q : Nat, s.heap.size ≤ q → A q := fun q h => by rw [← hAe]; exact Or.inr h
  have hS : va_S A s.heap s.heap [] := va_S.rf
  have hP : va_P (dC, dI) classes (WS_M_isPartner cI cL cZ h0 a_currency a_sort a_closing a_average a_held a_sum a_told a_left a_step a_outside a_item v_thrown v_companies v_accounts v_done v_items) s.heap := hP
  have hl := lv_entry ([.ref h0, .int p0, .int p1]) (n := 3) (Nat.le_of_ble_eq_true rfl)
  rw [lg_entry_eq]
  generalize (lg_sl ([.ref h0, .int p0, .int p1]) ++ List.replicate (3 - (lg_sl ([.ref h0, .int p0, .int p1])).length) Slot.unset).toArray = ls at hl ⊢
  have hl : lv_has ls 3 [(0, .ref h0), (1, .int p0), (2, .int p1)] := hl
  unfold wp_M_isPartner at hw
  refine (show ∀ (H : Heap) (locs : List Loc), va_P (dC, dI) classes (WS_M_isPartner cI cL cZ h0 a_currency a_sort a_closing a_average a_held a_sum a_told a_left a_step a_outside a_item v_thrown v_companies v_accounts v_done v_items) H → va_S A s.heap H locs → W p l e (headSpec ws_M_isPartner rm_M_isPartner).room s m ([.ref h0, .int p0, .int p1] : List Value).toArray below meth c H locs 0 0 (MQ below (QC_M_isPartner dC dI cI cL cZ A h0 a_currency a_sort a_closing a_average a_held a_sum a_told a_left a_step a_outside a_item v_thrown v_companies v_accounts v_done v_items post) ([.ref h0, .int p0, .int p1] : List Value).toArray s 0 0 A) (F0 m 0 ls []) from ?_) _ _ hP hS
  intro H locs hP hS
  refine lv_iload_n hx hb d_M_isPartner_0 rfl (lv_at hl 2 rfl) ?_
  refine lv_iconst (v := (-1)) hx hb d_M_isPartner_1 (by decide) ?_
  refine lv_icmp_eq (tgt := 18) hx hb d_M_isPartner_2 rfl (fun hc => ?_) (fun hc => ?_)
  ·
    have hw := hw.1 hc
    refine lv_iconst (v := 1) hx hb d_M_isPartner_18 (by decide) ?_
    refine lv_goto (tgt := 23) hx hb d_M_isPartner_19 rfl ?_
    exact W.zret (v := 1) hx hb hr (by decide) (fun t ht hW => ⟨⟨1, (), rfl, hw, ⟨by rw [ht]; exact hP, hD⟩⟩, hS.F ht⟩) hS.2.2 d_M_isPartner_23
  ·
    have hw := hw.2 hc
    refine lv_aload_n hx hb d_M_isPartner_5 rfl (lv_at hl 0 rfl) ?_
    refine lv_iload_n hx hb d_M_isPartner_6 rfl (lv_at hl 2 rfl) ?_
    refine kx_calli (ws' := fun u7 => (WS_M_isPartner cI cL cZ h0 a_currency a_sort a_closing a_average a_held a_sum a_told a_left a_step a_outside a_item v_thrown v_companies v_accounts v_done v_items)) (va_runV (As := [.int p1]) (rest := []) ⟨hx, hb, hml, hown, hts⟩ (c_M_isCompany l dC dI cI cL cZ h0 a_currency a_sort a_closing a_average a_held a_sum a_told a_left a_step a_outside a_item v_thrown v_companies v_accounts v_done v_items H.size p1 hw) ⟨(callB_of 1 hts (kx_good iw_547) rfl rfl rfl (hts _ (kx_w iw_4)) (hts _ (kx_w iw_544)) (by decide +kernel) ⟨Nat.le_of_ble_eq_true rfl, Nat.le_of_ble_eq_true rfl⟩), (hts _ (kx_w iw_546)), (hts _ (kx_w sl_M_isCompany))⟩ (kx_preV hN hK hP hD [0] (by decide) rfl 0 rfl rfl) rfl rfl hl.1 rfl (lv_room (Nat.le_of_ble_eq_true rfl)) d_M_isPartner_7 ⟨Nat.le_of_ble_eq_true rfl, Nat.le_of_ble_eq_true rfl⟩) hP hD hS hA [0] [] rfl rfl (by decide) (by decide) [0] (by decide) (fun _ => rfl) (fun r7 u7 H locs hw hP hD hS => ?_)
    have hP : va_P (dC, dI) classes (WS_M_isPartner cI cL cZ h0 a_currency a_sort a_closing a_average a_held a_sum a_told a_left a_step a_outside a_item v_thrown v_companies v_accounts v_done v_items) H := hP
    have hD : va_D A (WS_M_isPartner cI cL cZ h0 a_currency a_sort a_closing a_average a_held a_sum a_told a_left a_step a_outside a_item v_thrown v_companies v_accounts v_done v_items) := hD
    refine lv_if_eq (tgt := 22) hx hb d_M_isPartner_10 rfl (fun hc => ?_) (fun hc => ?_)
    ·
      have hw := hw.1 hc
      refine lv_iconst (v := 0) hx hb d_M_isPartner_22 (by decide) ?_
      exact W.zret (v := 0) hx hb hr (by decide) (fun t ht hW => ⟨⟨0, (), rfl, hw, ⟨by rw [ht]; exact hP, hD⟩⟩, hS.F ht⟩) hS.2.2 d_M_isPartner_23
    ·
      have hw := hw.2 hc
      refine lv_iload_n hx hb d_M_isPartner_13 rfl (lv_at hl 2 rfl) ?_
      refine lv_iload_n hx hb d_M_isPartner_14 rfl (lv_at hl 1 rfl) ?_
      refine lv_icmp_eq (tgt := 22) hx hb d_M_isPartner_15 rfl (fun hc => ?_) (fun hc => ?_)
      ·
        have hw := hw.1 hc
        refine lv_iconst (v := 0) hx hb d_M_isPartner_22 (by decide) ?_
        exact W.zret (v := 0) hx hb hr (by decide) (fun t ht hW => ⟨⟨0, (), rfl, hw, ⟨by rw [ht]; exact hP, hD⟩⟩, hS.F ht⟩) hS.2.2 d_M_isPartner_23
      ·
        have hw := hw.2 hc
        refine lv_iconst (v := 1) hx hb d_M_isPartner_18 (by decide) ?_
        refine lv_goto (tgt := 23) hx hb d_M_isPartner_19 rfl ?_
        exact W.zret (v := 1) hx hb hr (by decide) (fun t ht hW => ⟨⟨1, (), rfl, hw, ⟨by rw [ht]; exact hP, hD⟩⟩, hS.F ht⟩) hS.2.2 d_M_isPartner_23
/-! ConsolidationDeskModel.post(IIIJ)Z -/
abbrev y_M_post : MethodName := ⟨"ConsolidationDeskModel", "post", "(IIIJ)Z"⟩
theorem d_M_post_0 : decode prog_5_method_15_code 0 = .ok (.aload_n 0, 1) := by decide +kernel
theorem d_M_post_1 : decode prog_5_method_15_code 1 = .ok (.iconst 0, 1) := by decide +kernel
theorem d_M_post_2 : decode prog_5_method_15_code 2 = .ok (.putfield 49, 3) := by decide +kernel
theorem d_M_post_5 : decode prog_5_method_15_code 5 = .ok (.aload_n 0, 1) := by decide +kernel
theorem d_M_post_6 : decode prog_5_method_15_code 6 = .ok (.iload_n 1, 1) := by decide +kernel
theorem d_M_post_7 : decode prog_5_method_15_code 7 = .ok (.invokevirtual 59, 3) := by decide +kernel
theorem d_M_post_10 : decode prog_5_method_15_code 10 = .ok (.ifCond .eq 45, 3) := by decide +kernel
theorem d_M_post_13 : decode prog_5_method_15_code 13 = .ok (.aload_n 0, 1) := by decide +kernel
theorem d_M_post_14 : decode prog_5_method_15_code 14 = .ok (.iload_n 2, 1) := by decide +kernel
theorem d_M_post_15 : decode prog_5_method_15_code 15 = .ok (.invokevirtual 68, 3) := by decide +kernel
theorem d_M_post_18 : decode prog_5_method_15_code 18 = .ok (.ifCond .eq 37, 3) := by decide +kernel
theorem d_M_post_21 : decode prog_5_method_15_code 21 = .ok (.aload_n 0, 1) := by decide +kernel
theorem d_M_post_22 : decode prog_5_method_15_code 22 = .ok (.iload_n 1, 1) := by decide +kernel
theorem d_M_post_23 : decode prog_5_method_15_code 23 = .ok (.iload_n 3, 1) := by decide +kernel
theorem d_M_post_24 : decode prog_5_method_15_code 24 = .ok (.invokevirtual 71, 3) := by decide +kernel
theorem d_M_post_27 : decode prog_5_method_15_code 27 = .ok (.ifCond .eq 28, 3) := by decide +kernel
theorem d_M_post_30 : decode prog_5_method_15_code 30 = .ok (.aload_n 0, 1) := by decide +kernel
theorem d_M_post_31 : decode prog_5_method_15_code 31 = .ok (.getfield 13, 3) := by decide +kernel
theorem d_M_post_34 : decode prog_5_method_15_code 34 = .ok (.iload_n 2, 1) := by decide +kernel
theorem d_M_post_35 : decode prog_5_method_15_code 35 = .ok (.iaload, 1) := by decide +kernel
theorem d_M_post_36 : decode prog_5_method_15_code 36 = .ok (.iconst 4, 1) := by decide +kernel
theorem d_M_post_37 : decode prog_5_method_15_code 37 = .ok (.if_icmp .eq 18, 3) := by decide +kernel
theorem d_M_post_40 : decode prog_5_method_15_code 40 = .ok (.aload_n 0, 1) := by decide +kernel
theorem d_M_post_41 : decode prog_5_method_15_code 41 = .ok (.getfield 13, 3) := by decide +kernel
theorem d_M_post_44 : decode prog_5_method_15_code 44 = .ok (.iload_n 2, 1) := by decide +kernel
theorem d_M_post_45 : decode prog_5_method_15_code 45 = .ok (.iaload, 1) := by decide +kernel
theorem d_M_post_46 : decode prog_5_method_15_code 46 = .ok (.iconst 3, 1) := by decide +kernel
theorem d_M_post_47 : decode prog_5_method_15_code 47 = .ok (.if_icmp .ne 10, 3) := by decide +kernel
theorem d_M_post_50 : decode prog_5_method_15_code 50 = .ok (.iload_n 3, 1) := by decide +kernel
theorem d_M_post_51 : decode prog_5_method_15_code 51 = .ok (.iconst (-1), 1) := by decide +kernel
theorem d_M_post_52 : decode prog_5_method_15_code 52 = .ok (.if_icmp .eq 5, 3) := by decide +kernel
theorem d_M_post_55 : decode prog_5_method_15_code 55 = .ok (.iconst 0, 1) := by decide +kernel
theorem d_M_post_56 : decode prog_5_method_15_code 56 = .ok (.ireturn, 1) := by decide +kernel
theorem d_M_post_57 : decode prog_5_method_15_code 57 = .ok (.lload 4, 2) := by decide +kernel
theorem d_M_post_59 : decode prog_5_method_15_code 59 = .ok (.ldc2_w 75, 3) := by decide +kernel
theorem d_M_post_62 : decode prog_5_method_15_code 62 = .ok (.lcmp, 1) := by decide +kernel
theorem d_M_post_63 : decode prog_5_method_15_code 63 = .ok (.ifCond .gt 12, 3) := by decide +kernel
theorem d_M_post_66 : decode prog_5_method_15_code 66 = .ok (.lload 4, 2) := by decide +kernel
theorem d_M_post_68 : decode prog_5_method_15_code 68 = .ok (.ldc2_w 77, 3) := by decide +kernel
theorem d_M_post_71 : decode prog_5_method_15_code 71 = .ok (.lcmp, 1) := by decide +kernel
theorem d_M_post_72 : decode prog_5_method_15_code 72 = .ok (.ifCond .ge 5, 3) := by decide +kernel
theorem d_M_post_75 : decode prog_5_method_15_code 75 = .ok (.iconst 0, 1) := by decide +kernel
theorem d_M_post_76 : decode prog_5_method_15_code 76 = .ok (.ireturn, 1) := by decide +kernel
theorem d_M_post_77 : decode prog_5_method_15_code 77 = .ok (.aload_n 0, 1) := by decide +kernel
theorem d_M_post_78 : decode prog_5_method_15_code 78 = .ok (.getfield 25, 3) := by decide +kernel
theorem d_M_post_81 : decode prog_5_method_15_code 81 = .ok (.iload_n 1, 1) := by decide +kernel
theorem d_M_post_82 : decode prog_5_method_15_code 82 = .ok (.iload_n 2, 1) := by decide +kernel
theorem d_M_post_83 : decode prog_5_method_15_code 83 = .ok (.iload_n 3, 1) := by decide +kernel
theorem d_M_post_84 : decode prog_5_method_15_code 84 = .ok (.invokestatic 79, 3) := by decide +kernel
theorem d_M_post_87 : decode prog_5_method_15_code 87 = .ok (.laload, 1) := by decide +kernel
theorem d_M_post_88 : decode prog_5_method_15_code 88 = .ok (.lload 4, 2) := by decide +kernel
theorem d_M_post_90 : decode prog_5_method_15_code 90 = .ok (.ladd, 1) := by decide +kernel
theorem d_M_post_91 : decode prog_5_method_15_code 91 = .ok (.lstore 6, 2) := by decide +kernel
theorem d_M_post_93 : decode prog_5_method_15_code 93 = .ok (.lload 6, 2) := by decide +kernel
theorem d_M_post_95 : decode prog_5_method_15_code 95 = .ok (.invokestatic 83, 3) := by decide +kernel
theorem d_M_post_98 : decode prog_5_method_15_code 98 = .ok (.ldc2_w 87, 3) := by decide +kernel
theorem d_M_post_101 : decode prog_5_method_15_code 101 = .ok (.lcmp, 1) := by decide +kernel
theorem d_M_post_102 : decode prog_5_method_15_code 102 = .ok (.ifCond .le 5, 3) := by decide +kernel
theorem d_M_post_105 : decode prog_5_method_15_code 105 = .ok (.iconst 0, 1) := by decide +kernel
theorem d_M_post_106 : decode prog_5_method_15_code 106 = .ok (.ireturn, 1) := by decide +kernel
theorem d_M_post_107 : decode prog_5_method_15_code 107 = .ok (.aload_n 0, 1) := by decide +kernel
theorem d_M_post_108 : decode prog_5_method_15_code 108 = .ok (.getfield 25, 3) := by decide +kernel
theorem d_M_post_111 : decode prog_5_method_15_code 111 = .ok (.iload_n 1, 1) := by decide +kernel
theorem d_M_post_112 : decode prog_5_method_15_code 112 = .ok (.iload_n 2, 1) := by decide +kernel
theorem d_M_post_113 : decode prog_5_method_15_code 113 = .ok (.iload_n 3, 1) := by decide +kernel
theorem d_M_post_114 : decode prog_5_method_15_code 114 = .ok (.invokestatic 79, 3) := by decide +kernel
theorem d_M_post_117 : decode prog_5_method_15_code 117 = .ok (.lload 6, 2) := by decide +kernel
theorem d_M_post_119 : decode prog_5_method_15_code 119 = .ok (.lastore, 1) := by decide +kernel
theorem d_M_post_120 : decode prog_5_method_15_code 120 = .ok (.iconst 1, 1) := by decide +kernel
theorem d_M_post_121 : decode prog_5_method_15_code 121 = .ok (.ireturn, 1) := by decide +kernel
abbrev WS_M_post (cI cL cZ : ClassId)  (h0 a_currency a_sort a_closing a_average a_held a_sum a_told a_left a_step a_outside a_item : Nat) (v_thrown : Int32) (v_companies : Int32) (v_accounts : Int32) (v_done : Int32) (v_items : Int32) (v_sort : (Nat → Int32)) (v_sum : (Nat → Int64)) : va_W := [(h0, .inr (3, [.int v_thrown, .int v_companies, .int v_accounts, .ref a_currency, .ref a_sort, .ref a_closing, .ref a_average, .ref a_held, .ref a_sum, .ref a_told, .int v_done, .ref a_left, .ref a_step, .ref a_outside, .int v_items, .ref a_item])), (a_sort, .inl (cI, 12, .inl v_sort)), (a_sum, .inl (cL, 1872, .inr (.inl v_sum)))]
def wp_M_post  (p0 : Int32) (p1 : Int32) (p2 : Int32) (p3 : Int64) (v_thrown : Int32) (v_companies : Int32) (v_accounts : Int32) (v_sort : (Nat → Int32)) (v_sum : (Nat → Int64)) (post : Int32 → (Int32 × (Nat → Int64)) → Prop) : Prop := (wp_M_isCompany p0 v_companies (fun (r7 : Int32) (u7 : Unit) => ((r7 = 0 → post 0 (0, v_sum)) ∧ (¬ r7 = 0 → (wp_M_isAccount p1 v_accounts (fun (r15 : Int32) (u15 : Unit) => ((r15 = 0 → post 0 (0, v_sum)) ∧ (¬ r15 = 0 → (wp_M_isPartner p0 p2 v_companies (fun (r24 : Int32) (u24 : Unit) => ((r24 = 0 → post 0 (0, v_sum)) ∧ (¬ r24 = 0 → (vp_in p1 12 ∧ (((v_sort p1.toNatClampNeg) = 4 → post 0 (0, v_sum)) ∧ (¬ (v_sort p1.toNatClampNeg) = 4 → (vp_in p1 12 ∧ ((¬ (v_sort p1.toNatClampNeg) = 3 → ((2000000000000 < p3 → post 0 (0, v_sum)) ∧ (¬ 2000000000000 < p3 → (((-2000000000000) ≤ p3 → (wp_M_cell p0 p1 p2 (fun (r84 : Int32) (u84 : Unit) => (vp_in r84 1872 ∧ (∀ x91 : Int64, x91 = ((v_sum r84.toNatClampNeg) + p3) → (wp_M_size x91 (fun (r95 : Int64) (u95 : Unit) => ((r95 ≤ 1000000000000 → (wp_M_cell p0 p1 p2 (fun (r114 : Int32) (u114 : Unit) => (vp_in r114 1872 ∧ post 1 (0, (vp_updL v_sum r114.toNatClampNeg x91)))))) ∧ (¬ r95 ≤ 1000000000000 → post 0 (0, v_sum)))))))))) ∧ (¬ (-2000000000000) ≤ p3 → post 0 (0, v_sum)))))) ∧ ((v_sort p1.toNatClampNeg) = 3 → ((p2 = (-1) → ((2000000000000 < p3 → post 0 (0, v_sum)) ∧ (¬ 2000000000000 < p3 → (((-2000000000000) ≤ p3 → (wp_M_cell p0 p1 p2 (fun (r84 : Int32) (u84 : Unit) => (vp_in r84 1872 ∧ (∀ x91 : Int64, x91 = ((v_sum r84.toNatClampNeg) + p3) → (wp_M_size x91 (fun (r95 : Int64) (u95 : Unit) => ((r95 ≤ 1000000000000 → (wp_M_cell p0 p1 p2 (fun (r114 : Int32) (u114 : Unit) => (vp_in r114 1872 ∧ post 1 (0, (vp_updL v_sum r114.toNatClampNeg x91)))))) ∧ (¬ r95 ≤ 1000000000000 → post 0 (0, v_sum)))))))))) ∧ (¬ (-2000000000000) ≤ p3 → post 0 (0, v_sum)))))) ∧ (¬ p2 = (-1) → post 0 (0, v_sum)))))))))))))))))))))
abbrev ws_M_post : List Cond := .code y_M_post prog_5_method_15_code 8 (some .boolean) :: kxW
abbrev rm_M_post : Room := { frames := 2, cells := 0, slots := 0, locals := 43 }
abbrev QC_M_post (dC : Nat → ClassId) (dI : Nat → Nat → Nat) (cI cL cZ : ClassId) (A : Nat → Prop)  (h0 a_currency a_sort a_closing a_average a_held a_sum a_told a_left a_step a_outside a_item : Nat) (v_thrown : Int32) (v_companies : Int32) (v_accounts : Int32) (v_done : Int32) (v_items : Int32) (v_sort : (Nat → Int32)) (v_sum : (Nat → Int64)) (post : Int32 → (Int32 × (Nat → Int64)) → Prop) : Array Value → State → Outcome → State → Prop := va_Qi post (fun (u : Int32 × (Nat → Int64)) t => kx_B (dC, dI) classes A (WS_M_post cI cL cZ h0 a_currency a_sort a_closing a_average a_held a_sum a_told a_left a_step a_outside a_item u.1 v_companies v_accounts v_done v_items v_sort u.2) t) A
set_option maxHeartbeats 4000000 in
set_option maxRecDepth 100000 in
theorem c_M_post (l : Launch) (dC : Nat → ClassId) (dI : Nat → Nat → Nat) (cI cL cZ : ClassId)  (h0 a_currency a_sort a_closing a_average a_held a_sum a_told a_left a_step a_outside a_item : Nat) (v_thrown : Int32) (v_companies : Int32) (v_accounts : Int32) (v_done : Int32) (v_items : Int32) (v_sort : (Nat → Int32)) (v_sum : (Nat → Int64)) (sz : Nat) (p0 : Int32) (p1 : Int32) (p2 : Int32) (p3 : Int64) {post : Int32 → (Int32 × (Nat → Int64)) → Prop} (hw : wp_M_post p0 p1 p2 p3 v_thrown v_companies v_accounts v_sort v_sum post) : Met l y_M_post ws_M_post rm_M_post (kx_Pc (dC, dI) classes (kx_T cI cL cZ) (WS_M_post cI cL cZ h0 a_currency a_sort a_closing a_average a_held a_sum a_told a_left a_step a_outside a_item v_thrown v_companies v_accounts v_done v_items v_sort v_sum) sz [.ref h0, .int p0, .int p1, .int p2, .long p3]) (QC_M_post dC dI cI cL cZ (va_A (WS_M_post cI cL cZ h0 a_currency a_sort a_closing a_average a_held a_sum a_told a_left a_step a_outside a_item v_thrown v_companies v_accounts v_done v_items v_sort v_sum) sz) h0 a_currency a_sort a_closing a_average a_held a_sum a_told a_left a_step a_outside a_item v_thrown v_companies v_accounts v_done v_items v_sort v_sum post) 0 0 (va_A (WS_M_post cI cL cZ h0 a_currency a_sort a_closing a_average a_held a_sum a_told a_left a_step a_outside a_item v_thrown v_companies v_accounts v_done v_items v_sort v_sum) sz) := by
  refine Met.ofW (cc := prog_5_method_15_code) (maxL := 8) (ret := (some .boolean)) (by decide) rfl ?_
  intro p e s m args below meth c s₁ B hml hv
  obtain ⟨rfl, hsz, hP, hK, hD0, hN⟩ := hv
  have hx := B.exec
  have hb := B.bytes
  have hr := B.returns
  have hts := atoms_spec (ws := ws_M_post) B.pre
  have hown : s.vm.findClass R_M = some m.cls := findClass_of_methodNamed B.named
  have hlocks := B.notSynchronized
  subst hsz
  have hD := hD0.self (sz := s.heap.size)
  generalize hAe : va_A (WS_M_post cI cL cZ h0 a_currency a_sort a_closing a_average a_held a_sum a_told a_left a_step a_outside a_item v_thrown v_companies v_accounts v_done v_items v_sort v_sum) s.heap.size = A at hD ⊢
  have hA : ∀ q : Nat, s.heap.size ≤ q → A q := fun q h => by rw [← hAe]; exact Or.inr h
  have hS : va_S A s.heap s.heap [] := va_S.rf
  have hP : va_P (dC, dI) classes (WS_M_post cI cL cZ h0 a_currency a_sort a_closing a_average a_held a_sum a_told a_left a_step a_outside a_item v_thrown v_companies v_accounts v_done v_items v_sort v_sum) s.heap := hP
  have hl := lv_entry ([.ref h0, .int p0, .int p1, .int p2, .long p3]) (n := 8) (Nat.le_of_ble_eq_true rfl)
  rw [lg_entry_eq]
  generalize (lg_sl ([.ref h0, .int p0, .int p1, .int p2, .long p3]) ++ List.replicate (8 - (lg_sl ([.ref h0, .int p0, .int p1, .int p2, .long p3])).length) Slot.unset).toArray = ls at hl ⊢
  have hl : lv_has ls 8 [(0, .ref h0), (1, .int p0), (2, .int p1), (3, .int p2), (4, .long p3)] := hl
  unfold wp_M_post at hw
  refine (show ∀ (H : Heap) (locs : List Loc), va_P (dC, dI) classes (WS_M_post cI cL cZ h0 a_currency a_sort a_closing a_average a_held a_sum a_told a_left a_step a_outside a_item v_thrown v_companies v_accounts v_done v_items v_sort v_sum) H → va_S A s.heap H locs → W p l e (headSpec ws_M_post rm_M_post).room s m ([.ref h0, .int p0, .int p1, .int p2, .long p3] : List Value).toArray below meth c H locs 0 0 (MQ below (QC_M_post dC dI cI cL cZ A h0 a_currency a_sort a_closing a_average a_held a_sum a_told a_left a_step a_outside a_item v_thrown v_companies v_accounts v_done v_items v_sort v_sum post) ([.ref h0, .int p0, .int p1, .int p2, .long p3] : List Value).toArray s 0 0 A) (F0 m 0 ls []) from ?_) _ _ hP hS
  intro H locs hP hS
  refine lv_aload_n hx hb d_M_post_0 rfl (lv_at hl 0 rfl) ?_
  refine lv_iconst (v := 0) hx hb d_M_post_1 (by decide) ?_
  refine va_put (D := (dC, dI)) (ci := 3) (v := .int 0) (ty := .int) (C := R_M) (T := F_M) (N := 16) hx hb hts (kx_in in_M) t_M t_M_ok n_M hown hK hP hD hS 0 rfl rfl 0 (by decide) (hts _ (kx_w iw_475)) (fun _ h9 => h9) rfl (by decide +kernel) rfl rfl (Nat.le_of_ble_eq_true rfl) d_M_post_2 (fun H locs hP hD hS => ?_)
  have hP : va_P (dC, dI) classes (WS_M_post cI cL cZ h0 a_currency a_sort a_closing a_average a_held a_sum a_told a_left a_step a_outside a_item 0 v_companies v_accounts v_done v_items v_sort v_sum) H := hP
  have hD : va_D A (WS_M_post cI cL cZ h0 a_currency a_sort a_closing a_average a_held a_sum a_told a_left a_step a_outside a_item 0 v_companies v_accounts v_done v_items v_sort v_sum) := hD
  refine lv_aload_n hx hb d_M_post_5 rfl (lv_at hl 0 rfl) ?_
  refine lv_iload_n hx hb d_M_post_6 rfl (lv_at hl 1 rfl) ?_
  refine kx_calli (ws' := fun u7 => (WS_M_post cI cL cZ h0 a_currency a_sort a_closing a_average a_held a_sum a_told a_left a_step a_outside a_item 0 v_companies v_accounts v_done v_items v_sort v_sum)) (va_runV (As := [.int p0]) (rest := []) ⟨hx, hb, hml, hown, hts⟩ (c_M_isCompany l dC dI cI cL cZ h0 a_currency a_sort a_closing a_average a_held a_sum a_told a_left a_step a_outside a_item 0 v_companies v_accounts v_done v_items H.size p0 hw) ⟨(callB_of 1 hts (kx_good iw_547) rfl rfl rfl (hts _ (kx_w iw_4)) (hts _ (kx_w iw_544)) (by decide +kernel) ⟨Nat.le_of_ble_eq_true rfl, Nat.le_of_ble_eq_true rfl⟩), (hts _ (kx_w iw_546)), (hts _ (kx_w sl_M_isCompany))⟩ (kx_preV hN hK hP hD [0] (by decide) rfl 0 rfl rfl) rfl rfl hl.1 rfl (lv_room (Nat.le_of_ble_eq_true rfl)) d_M_post_7 ⟨Nat.le_of_ble_eq_true rfl, Nat.le_of_ble_eq_true rfl⟩) hP hD hS hA [0] [1, 2] rfl rfl (by decide) (by decide) [2, 0, 1] (by decide) (fun _ => rfl) (fun r7 u7 H locs hw hP hD hS => ?_)
  have hP : va_P (dC, dI) classes (WS_M_post cI cL cZ h0 a_currency a_sort a_closing a_average a_held a_sum a_told a_left a_step a_outside a_item 0 v_companies v_accounts v_done v_items v_sort v_sum) H := hP
  have hD : va_D A (WS_M_post cI cL cZ h0 a_currency a_sort a_closing a_average a_held a_sum a_told a_left a_step a_outside a_item 0 v_companies v_accounts v_done v_items v_sort v_sum) := hD
  refine lv_if_eq (tgt := 55) hx hb d_M_post_10 rfl (fun hc => ?_) (fun hc => ?_)
  ·
    have hw := hw.1 hc
    refine lv_iconst (v := 0) hx hb d_M_post_55 (by decide) ?_
    exact W.zret (v := 0) hx hb hr (by decide) (fun t ht hW => ⟨⟨0, (0, v_sum), rfl, hw, ⟨by rw [ht]; exact hP, hD⟩⟩, hS.F ht⟩) hS.2.2 d_M_post_56
  ·
    have hw := hw.2 hc
    refine lv_aload_n hx hb d_M_post_13 rfl (lv_at hl 0 rfl) ?_
    refine lv_iload_n hx hb d_M_post_14 rfl (lv_at hl 2 rfl) ?_
    refine kx_calli (ws' := fun u15 => (WS_M_post cI cL cZ h0 a_currency a_sort a_closing a_average a_held a_sum a_told a_left a_step a_outside a_item 0 v_companies v_accounts v_done v_items v_sort v_sum)) (va_runV (As := [.int p1]) (rest := []) ⟨hx, hb, hml, hown, hts⟩ (c_M_isAccount l dC dI cI cL cZ h0 a_currency a_sort a_closing a_average a_held a_sum a_told a_left a_step a_outside a_item 0 v_companies v_accounts v_done v_items H.size p1 hw) ⟨(callB_of 1 hts (kx_good iw_564) rfl rfl rfl (hts _ (kx_w iw_4)) (hts _ (kx_w iw_561)) (by decide +kernel) ⟨Nat.le_of_ble_eq_true rfl, Nat.le_of_ble_eq_true rfl⟩), (hts _ (kx_w iw_563)), (hts _ (kx_w sl_M_isAccount))⟩ (kx_preV hN hK hP hD [0] (by decide) rfl 0 rfl rfl) rfl rfl hl.1 rfl (lv_room (Nat.le_of_ble_eq_true rfl)) d_M_post_15 ⟨Nat.le_of_ble_eq_true rfl, Nat.le_of_ble_eq_true rfl⟩) hP hD hS hA [0] [1, 2] rfl rfl (by decide) (by decide) [2, 0, 1] (by decide) (fun _ => rfl) (fun r15 u15 H locs hw hP hD hS => ?_)
    have hP : va_P (dC, dI) classes (WS_M_post cI cL cZ h0 a_currency a_sort a_closing a_average a_held a_sum a_told a_left a_step a_outside a_item 0 v_companies v_accounts v_done v_items v_sort v_sum) H := hP
    have hD : va_D A (WS_M_post cI cL cZ h0 a_currency a_sort a_closing a_average a_held a_sum a_told a_left a_step a_outside a_item 0 v_companies v_accounts v_done v_items v_sort v_sum) := hD
    refine lv_if_eq (tgt := 55) hx hb d_M_post_18 rfl (fun hc => ?_) (fun hc => ?_)
    ·
      have hw := hw.1 hc
      refine lv_iconst (v := 0) hx hb d_M_post_55 (by decide) ?_
      exact W.zret (v := 0) hx hb hr (by decide) (fun t ht hW => ⟨⟨0, (0, v_sum), rfl, hw, ⟨by rw [ht]; exact hP, hD⟩⟩, hS.F ht⟩) hS.2.2 d_M_post_56
    ·
      have hw := hw.2 hc
      refine lv_aload_n hx hb d_M_post_21 rfl (lv_at hl 0 rfl) ?_
      refine lv_iload_n hx hb d_M_post_22 rfl (lv_at hl 1 rfl) ?_
      refine lv_iload_n hx hb d_M_post_23 rfl (lv_at hl 3 rfl) ?_
      refine kx_calli (ws' := fun u24 => (WS_M_post cI cL cZ h0 a_currency a_sort a_closing a_average a_held a_sum a_told a_left a_step a_outside a_item 0 v_companies v_accounts v_done v_items v_sort v_sum)) (va_runV (As := [.int p0, .int p2]) (rest := []) ⟨hx, hb, hml, hown, hts⟩ (c_M_isPartner l dC dI cI cL cZ h0 a_currency a_sort a_closing a_average a_held a_sum a_told a_left a_step a_outside a_item 0 v_companies v_accounts v_done v_items H.size p0 p2 hw) ⟨(callB_of 2 hts (kx_good iw_568) rfl rfl rfl (hts _ (kx_w iw_4)) (hts _ (kx_w iw_565)) (by decide +kernel) ⟨Nat.le_of_ble_eq_true rfl, Nat.le_of_ble_eq_true rfl⟩), (hts _ (kx_w iw_567)), (hts _ (kx_w sl_M_isPartner))⟩ (kx_preV hN hK hP hD [0] (by decide) rfl 0 rfl rfl) rfl rfl hl.1 rfl (lv_room (Nat.le_of_ble_eq_true rfl)) d_M_post_24 ⟨Nat.le_of_ble_eq_true rfl, Nat.le_of_ble_eq_true rfl⟩) hP hD hS hA [0] [1, 2] rfl rfl (by decide) (by decide) [2, 0, 1] (by decide) (fun _ => rfl) (fun r24 u24 H locs hw hP hD hS => ?_)
      have hP : va_P (dC, dI) classes (WS_M_post cI cL cZ h0 a_currency a_sort a_closing a_average a_held a_sum a_told a_left a_step a_outside a_item 0 v_companies v_accounts v_done v_items v_sort v_sum) H := hP
      have hD : va_D A (WS_M_post cI cL cZ h0 a_currency a_sort a_closing a_average a_held a_sum a_told a_left a_step a_outside a_item 0 v_companies v_accounts v_done v_items v_sort v_sum) := hD
      refine lv_if_eq (tgt := 55) hx hb d_M_post_27 rfl (fun hc => ?_) (fun hc => ?_)
      ·
        have hw := hw.1 hc
        refine lv_iconst (v := 0) hx hb d_M_post_55 (by decide) ?_
        exact W.zret (v := 0) hx hb hr (by decide) (fun t ht hW => ⟨⟨0, (0, v_sum), rfl, hw, ⟨by rw [ht]; exact hP, hD⟩⟩, hS.F ht⟩) hS.2.2 d_M_post_56
      ·
        have hw := hw.2 hc
        refine lv_aload_n hx hb d_M_post_30 rfl (lv_at hl 0 rfl) ?_
        refine va_get (D := (dC, dI)) (ci := 3) (v := .ref a_sort) (C := R_M) (T := F_M) (N := 16) hx hb hts (kx_in in_M) hown hK hP 0 rfl rfl 4 (by decide) (hts _ (kx_w iw_479)) (fun _ h9 => h9) rfl d_M_post_31 ?_
        refine lv_iload_n hx hb d_M_post_34 rfl (lv_at hl 2 rfl) ?_
        obtain ⟨hi, hw⟩ := hw
        refine va_iald hx hb hK hP 1 0 rfl rfl hi d_M_post_35 ?_
        refine lv_iconst (v := 4) hx hb d_M_post_36 (by decide) ?_
        refine lv_icmp_eq (tgt := 55) hx hb d_M_post_37 rfl (fun hc => ?_) (fun hc => ?_)
        ·
          have hw := hw.1 hc
          refine lv_iconst (v := 0) hx hb d_M_post_55 (by decide) ?_
          exact W.zret (v := 0) hx hb hr (by decide) (fun t ht hW => ⟨⟨0, (0, v_sum), rfl, hw, ⟨by rw [ht]; exact hP, hD⟩⟩, hS.F ht⟩) hS.2.2 d_M_post_56
        ·
          have hw := hw.2 hc
          refine lv_aload_n hx hb d_M_post_40 rfl (lv_at hl 0 rfl) ?_
          refine va_get (D := (dC, dI)) (ci := 3) (v := .ref a_sort) (C := R_M) (T := F_M) (N := 16) hx hb hts (kx_in in_M) hown hK hP 0 rfl rfl 4 (by decide) (hts _ (kx_w iw_479)) (fun _ h9 => h9) rfl d_M_post_41 ?_
          refine lv_iload_n hx hb d_M_post_44 rfl (lv_at hl 2 rfl) ?_
          obtain ⟨hi, hw⟩ := hw
          refine va_iald hx hb hK hP 1 0 rfl rfl hi d_M_post_45 ?_
          refine lv_iconst (v := 3) hx hb d_M_post_46 (by decide) ?_
          refine lv_icmp_ne (tgt := 57) hx hb d_M_post_47 rfl (fun hc => ?_) (fun hc => ?_)
          ·
            have hw := hw.1 hc
            refine lv_lload hx hb d_M_post_57 (lv_at hl 4 rfl) ?_
            refine lv_ldc2 (v := 2000000000000) hx hb hown (hts _ (kx_w iw_569)) d_M_post_59 ?_
            refine W.lcmp hx hb d_M_post_62 ?_
            refine lv_if_gt (tgt := 75) hx hb d_M_post_63 rfl (fun hc => ?_) (fun hc => ?_)
            ·
              have hc := (lc_gt _ _).mp hc
              have hw := hw.1 hc
              refine lv_iconst (v := 0) hx hb d_M_post_75 (by decide) ?_
              exact W.zret (v := 0) hx hb hr (by decide) (fun t ht hW => ⟨⟨0, (0, v_sum), rfl, hw, ⟨by rw [ht]; exact hP, hD⟩⟩, hS.F ht⟩) hS.2.2 d_M_post_76
            ·
              have hc := mt (lc_gt _ _).mpr hc
              have hw := hw.2 hc
              refine lv_lload hx hb d_M_post_66 (lv_at hl 4 rfl) ?_
              refine lv_ldc2 (v := (-2000000000000)) hx hb hown (hts _ (kx_w iw_570)) d_M_post_68 ?_
              refine W.lcmp hx hb d_M_post_71 ?_
              refine lv_if_ge (tgt := 77) hx hb d_M_post_72 rfl (fun hc => ?_) (fun hc => ?_)
              ·
                have hc := (lc_ge _ _).mp hc
                have hw := hw.1 hc
                refine lv_aload_n hx hb d_M_post_77 rfl (lv_at hl 0 rfl) ?_
                refine va_get (D := (dC, dI)) (ci := 3) (v := .ref a_sum) (C := R_M) (T := F_M) (N := 16) hx hb hts (kx_in in_M) hown hK hP 0 rfl rfl 8 (by decide) (hts _ (kx_w iw_483)) (fun _ h9 => h9) rfl d_M_post_78 ?_
                refine lv_iload_n hx hb d_M_post_81 rfl (lv_at hl 1 rfl) ?_
                refine lv_iload_n hx hb d_M_post_82 rfl (lv_at hl 2 rfl) ?_
                refine lv_iload_n hx hb d_M_post_83 rfl (lv_at hl 3 rfl) ?_
                refine kx_calli (ws' := fun u84 => (WS_M_post cI cL cZ h0 a_currency a_sort a_closing a_average a_held a_sum a_told a_left a_step a_outside a_item 0 v_companies v_accounts v_done v_items v_sort v_sum)) (va_runS (As := [.int p0, .int p1, .int p2]) (rest := [.ref a_sum]) ⟨hx, hb, hml, hown, hts⟩ (c_M_cell l dC dI cI cL cZ  H.size p0 p1 p2 hw) ⟨(callB_of 3 hts (kx_good iw_573) rfl rfl rfl (hts _ (kx_w iw_4)) (hts _ (kx_w iw_571)) (by decide +kernel) ⟨Nat.le_of_ble_eq_true rfl, Nat.le_of_ble_eq_true rfl⟩), (hts _ (kx_w iw_572))⟩ (kx_preS hN hK hP hD [] (by decide) rfl) rfl rfl hl.1 rfl (lv_room (Nat.le_of_ble_eq_true rfl)) d_M_post_84 ⟨Nat.le_of_ble_eq_true rfl, Nat.le_of_ble_eq_true rfl⟩) hP hD hS hA [] [0, 1, 2] rfl rfl (by decide) (by decide) [0, 1, 2] (by decide) (fun _ => rfl) (fun r84 u84 H locs hw hP hD hS => ?_)
                have hP : va_P (dC, dI) classes (WS_M_post cI cL cZ h0 a_currency a_sort a_closing a_average a_held a_sum a_told a_left a_step a_outside a_item 0 v_companies v_accounts v_done v_items v_sort v_sum) H := hP
                have hD : va_D A (WS_M_post cI cL cZ h0 a_currency a_sort a_closing a_average a_held a_sum a_told a_left a_step a_outside a_item 0 v_companies v_accounts v_done v_items v_sort v_sum) := hD
                obtain ⟨hi, hw⟩ := hw
                refine va_lald hx hb hK hP 2 1 rfl rfl hi d_M_post_87 ?_
                refine lv_lload hx hb d_M_post_88 (lv_at hl 4 rfl) ?_
                refine lv_ladd hx hb d_M_post_90 ?_
                refine lv_topl (fun x91 e91 => ?_)
                have hw := hw x91 e91
                refine lv_lstore (lv' := [(6, .long x91), (0, .ref h0), (1, .int p0), (2, .int p1), (3, .int p2), (4, .long p3)]) hx hb d_M_post_91 hl (by decide) rfl (fun ls hl => ?_)
                refine lv_lload hx hb d_M_post_93 (lv_at hl 0 rfl) ?_
                refine kx_calll (ws' := fun u95 => (WS_M_post cI cL cZ h0 a_currency a_sort a_closing a_average a_held a_sum a_told a_left a_step a_outside a_item 0 v_companies v_accounts v_done v_items v_sort v_sum)) (va_runS (As := [.long x91]) (rest := []) ⟨hx, hb, hml, hown, hts⟩ (c_M_size l dC dI cI cL cZ  H.size x91 hw) ⟨(callB_of 1 hts (kx_good iw_576) rfl rfl rfl (hts _ (kx_w iw_4)) (hts _ (kx_w iw_574)) (by decide +kernel) ⟨Nat.le_of_ble_eq_true rfl, Nat.le_of_ble_eq_true rfl⟩), (hts _ (kx_w iw_575))⟩ (kx_preS hN hK hP hD [] (by decide) rfl) rfl rfl hl.1 rfl (lv_room (Nat.le_of_ble_eq_true rfl)) d_M_post_95 ⟨Nat.le_of_ble_eq_true rfl, Nat.le_of_ble_eq_true rfl⟩) hP hD hS hA [] [0, 1, 2] rfl rfl (by decide) (by decide) [0, 1, 2] (by decide) (fun _ => rfl) (fun r95 u95 H locs hw hP hD hS => ?_)
                have hP : va_P (dC, dI) classes (WS_M_post cI cL cZ h0 a_currency a_sort a_closing a_average a_held a_sum a_told a_left a_step a_outside a_item 0 v_companies v_accounts v_done v_items v_sort v_sum) H := hP
                have hD : va_D A (WS_M_post cI cL cZ h0 a_currency a_sort a_closing a_average a_held a_sum a_told a_left a_step a_outside a_item 0 v_companies v_accounts v_done v_items v_sort v_sum) := hD
                refine lv_ldc2 (v := 1000000000000) hx hb hown (hts _ (kx_w iw_577)) d_M_post_98 ?_
                refine W.lcmp hx hb d_M_post_101 ?_
                refine lv_if_le (tgt := 107) hx hb d_M_post_102 rfl (fun hc => ?_) (fun hc => ?_)
                ·
                  have hc := (lc_le _ _).mp hc
                  have hw := hw.1 hc
                  refine lv_aload_n hx hb d_M_post_107 rfl (lv_at hl 1 rfl) ?_
                  refine va_get (D := (dC, dI)) (ci := 3) (v := .ref a_sum) (C := R_M) (T := F_M) (N := 16) hx hb hts (kx_in in_M) hown hK hP 0 rfl rfl 8 (by decide) (hts _ (kx_w iw_483)) (fun _ h9 => h9) rfl d_M_post_108 ?_
                  refine lv_iload_n hx hb d_M_post_111 rfl (lv_at hl 2 rfl) ?_
                  refine lv_iload_n hx hb d_M_post_112 rfl (lv_at hl 3 rfl) ?_
                  refine lv_iload_n hx hb d_M_post_113 rfl (lv_at hl 4 rfl) ?_
                  refine kx_calli (ws' := fun u114 => (WS_M_post cI cL cZ h0 a_currency a_sort a_closing a_average a_held a_sum a_told a_left a_step a_outside a_item 0 v_companies v_accounts v_done v_items v_sort v_sum)) (va_runS (As := [.int p0, .int p1, .int p2]) (rest := [.ref a_sum]) ⟨hx, hb, hml, hown, hts⟩ (c_M_cell l dC dI cI cL cZ  H.size p0 p1 p2 hw) ⟨(callB_of 3 hts (kx_good iw_573) rfl rfl rfl (hts _ (kx_w iw_4)) (hts _ (kx_w iw_571)) (by decide +kernel) ⟨Nat.le_of_ble_eq_true rfl, Nat.le_of_ble_eq_true rfl⟩), (hts _ (kx_w iw_572))⟩ (kx_preS hN hK hP hD [] (by decide) rfl) rfl rfl hl.1 rfl (lv_room (Nat.le_of_ble_eq_true rfl)) d_M_post_114 ⟨Nat.le_of_ble_eq_true rfl, Nat.le_of_ble_eq_true rfl⟩) hP hD hS hA [] [0, 1, 2] rfl rfl (by decide) (by decide) [0, 1, 2] (by decide) (fun _ => rfl) (fun r114 u114 H locs hw hP hD hS => ?_)
                  have hP : va_P (dC, dI) classes (WS_M_post cI cL cZ h0 a_currency a_sort a_closing a_average a_held a_sum a_told a_left a_step a_outside a_item 0 v_companies v_accounts v_done v_items v_sort v_sum) H := hP
                  have hD : va_D A (WS_M_post cI cL cZ h0 a_currency a_sort a_closing a_average a_held a_sum a_told a_left a_step a_outside a_item 0 v_companies v_accounts v_done v_items v_sort v_sum) := hD
                  refine lv_lload hx hb d_M_post_117 (lv_at hl 0 rfl) ?_
                  obtain ⟨hi, hw⟩ := hw
                  refine va_last hx hb hK hP hD hS 2 1 rfl rfl hi d_M_post_119 (fun H locs hP hD hS => ?_)
                  have hP : va_P (dC, dI) classes (WS_M_post cI cL cZ h0 a_currency a_sort a_closing a_average a_held a_sum a_told a_left a_step a_outside a_item 0 v_companies v_accounts v_done v_items v_sort (vp_updL v_sum r114.toNatClampNeg x91)) H := hP
                  have hD : va_D A (WS_M_post cI cL cZ h0 a_currency a_sort a_closing a_average a_held a_sum a_told a_left a_step a_outside a_item 0 v_companies v_accounts v_done v_items v_sort (vp_updL v_sum r114.toNatClampNeg x91)) := hD
                  refine lv_iconst (v := 1) hx hb d_M_post_120 (by decide) ?_
                  exact W.zret (v := 1) hx hb hr (by decide) (fun t ht hW => ⟨⟨1, (0, (vp_updL v_sum r114.toNatClampNeg x91)), rfl, hw, ⟨by rw [ht]; exact hP, hD⟩⟩, hS.F ht⟩) hS.2.2 d_M_post_121
                ·
                  have hc := mt (lc_le _ _).mpr hc
                  have hw := hw.2 hc
                  refine lv_iconst (v := 0) hx hb d_M_post_105 (by decide) ?_
                  exact W.zret (v := 0) hx hb hr (by decide) (fun t ht hW => ⟨⟨0, (0, v_sum), rfl, hw, ⟨by rw [ht]; exact hP, hD⟩⟩, hS.F ht⟩) hS.2.2 d_M_post_106
              ·
                have hc := mt (lc_ge _ _).mpr hc
                have hw := hw.2 hc
                refine lv_iconst (v := 0) hx hb d_M_post_75 (by decide) ?_
                exact W.zret (v := 0) hx hb hr (by decide) (fun t ht hW => ⟨⟨0, (0, v_sum), rfl, hw, ⟨by rw [ht]; exact hP, hD⟩⟩, hS.F ht⟩) hS.2.2 d_M_post_76
          ·
            have hw := hw.2 hc
            refine lv_iload_n hx hb d_M_post_50 rfl (lv_at hl 3 rfl) ?_
            refine lv_iconst (v := (-1)) hx hb d_M_post_51 (by decide) ?_
            refine lv_icmp_eq (tgt := 57) hx hb d_M_post_52 rfl (fun hc => ?_) (fun hc => ?_)
            ·
              have hw := hw.1 hc
              refine lv_lload hx hb d_M_post_57 (lv_at hl 4 rfl) ?_
              refine lv_ldc2 (v := 2000000000000) hx hb hown (hts _ (kx_w iw_569)) d_M_post_59 ?_
              refine W.lcmp hx hb d_M_post_62 ?_
              refine lv_if_gt (tgt := 75) hx hb d_M_post_63 rfl (fun hc => ?_) (fun hc => ?_)
              ·
                have hc := (lc_gt _ _).mp hc
                have hw := hw.1 hc
                refine lv_iconst (v := 0) hx hb d_M_post_75 (by decide) ?_
                exact W.zret (v := 0) hx hb hr (by decide) (fun t ht hW => ⟨⟨0, (0, v_sum), rfl, hw, ⟨by rw [ht]; exact hP, hD⟩⟩, hS.F ht⟩) hS.2.2 d_M_post_76
              ·
                have hc := mt (lc_gt _ _).mpr hc
                have hw := hw.2 hc
                refine lv_lload hx hb d_M_post_66 (lv_at hl 4 rfl) ?_
                refine lv_ldc2 (v := (-2000000000000)) hx hb hown (hts _ (kx_w iw_570)) d_M_post_68 ?_
                refine W.lcmp hx hb d_M_post_71 ?_
                refine lv_if_ge (tgt := 77) hx hb d_M_post_72 rfl (fun hc => ?_) (fun hc => ?_)
                ·
                  have hc := (lc_ge _ _).mp hc
                  have hw := hw.1 hc
                  refine lv_aload_n hx hb d_M_post_77 rfl (lv_at hl 0 rfl) ?_
                  refine va_get (D := (dC, dI)) (ci := 3) (v := .ref a_sum) (C := R_M) (T := F_M) (N := 16) hx hb hts (kx_in in_M) hown hK hP 0 rfl rfl 8 (by decide) (hts _ (kx_w iw_483)) (fun _ h9 => h9) rfl d_M_post_78 ?_
                  refine lv_iload_n hx hb d_M_post_81 rfl (lv_at hl 1 rfl) ?_
                  refine lv_iload_n hx hb d_M_post_82 rfl (lv_at hl 2 rfl) ?_
                  refine lv_iload_n hx hb d_M_post_83 rfl (lv_at hl 3 rfl) ?_
                  refine kx_calli (ws' := fun u84 => (WS_M_post cI cL cZ h0 a_currency a_sort a_closing a_average a_held a_sum a_told a_left a_step a_outside a_item 0 v_companies v_accounts v_done v_items v_sort v_sum)) (va_runS (As := [.int p0, .int p1, .int p2]) (rest := [.ref a_sum]) ⟨hx, hb, hml, hown, hts⟩ (c_M_cell l dC dI cI cL cZ  H.size p0 p1 p2 hw) ⟨(callB_of 3 hts (kx_good iw_573) rfl rfl rfl (hts _ (kx_w iw_4)) (hts _ (kx_w iw_571)) (by decide +kernel) ⟨Nat.le_of_ble_eq_true rfl, Nat.le_of_ble_eq_true rfl⟩), (hts _ (kx_w iw_572))⟩ (kx_preS hN hK hP hD [] (by decide) rfl) rfl rfl hl.1 rfl (lv_room (Nat.le_of_ble_eq_true rfl)) d_M_post_84 ⟨Nat.le_of_ble_eq_true rfl, Nat.le_of_ble_eq_true rfl⟩) hP hD hS hA [] [0, 1, 2] rfl rfl (by decide) (by decide) [0, 1, 2] (by decide) (fun _ => rfl) (fun r84 u84 H locs hw hP hD hS => ?_)
                  have hP : va_P (dC, dI) classes (WS_M_post cI cL cZ h0 a_currency a_sort a_closing a_average a_held a_sum a_told a_left a_step a_outside a_item 0 v_companies v_accounts v_done v_items v_sort v_sum) H := hP
                  have hD : va_D A (WS_M_post cI cL cZ h0 a_currency a_sort a_closing a_average a_held a_sum a_told a_left a_step a_outside a_item 0 v_companies v_accounts v_done v_items v_sort v_sum) := hD
                  obtain ⟨hi, hw⟩ := hw
                  refine va_lald hx hb hK hP 2 1 rfl rfl hi d_M_post_87 ?_
                  refine lv_lload hx hb d_M_post_88 (lv_at hl 4 rfl) ?_
                  refine lv_ladd hx hb d_M_post_90 ?_
                  refine lv_topl (fun x91 e91 => ?_)
                  have hw := hw x91 e91
                  refine lv_lstore (lv' := [(6, .long x91), (0, .ref h0), (1, .int p0), (2, .int p1), (3, .int p2), (4, .long p3)]) hx hb d_M_post_91 hl (by decide) rfl (fun ls hl => ?_)
                  refine lv_lload hx hb d_M_post_93 (lv_at hl 0 rfl) ?_
                  refine kx_calll (ws' := fun u95 => (WS_M_post cI cL cZ h0 a_currency a_sort a_closing a_average a_held a_sum a_told a_left a_step a_outside a_item 0 v_companies v_accounts v_done v_items v_sort v_sum)) (va_runS (As := [.long x91]) (rest := []) ⟨hx, hb, hml, hown, hts⟩ (c_M_size l dC dI cI cL cZ  H.size x91 hw) ⟨(callB_of 1 hts (kx_good iw_576) rfl rfl rfl (hts _ (kx_w iw_4)) (hts _ (kx_w iw_574)) (by decide +kernel) ⟨Nat.le_of_ble_eq_true rfl, Nat.le_of_ble_eq_true rfl⟩), (hts _ (kx_w iw_575))⟩ (kx_preS hN hK hP hD [] (by decide) rfl) rfl rfl hl.1 rfl (lv_room (Nat.le_of_ble_eq_true rfl)) d_M_post_95 ⟨Nat.le_of_ble_eq_true rfl, Nat.le_of_ble_eq_true rfl⟩) hP hD hS hA [] [0, 1, 2] rfl rfl (by decide) (by decide) [0, 1, 2] (by decide) (fun _ => rfl) (fun r95 u95 H locs hw hP hD hS => ?_)
                  have hP : va_P (dC, dI) classes (WS_M_post cI cL cZ h0 a_currency a_sort a_closing a_average a_held a_sum a_told a_left a_step a_outside a_item 0 v_companies v_accounts v_done v_items v_sort v_sum) H := hP
                  have hD : va_D A (WS_M_post cI cL cZ h0 a_currency a_sort a_closing a_average a_held a_sum a_told a_left a_step a_outside a_item 0 v_companies v_accounts v_done v_items v_sort v_sum) := hD
                  refine lv_ldc2 (v := 1000000000000) hx hb hown (hts _ (kx_w iw_577)) d_M_post_98 ?_
                  refine W.lcmp hx hb d_M_post_101 ?_
                  refine lv_if_le (tgt := 107) hx hb d_M_post_102 rfl (fun hc => ?_) (fun hc => ?_)
                  ·
                    have hc := (lc_le _ _).mp hc
                    have hw := hw.1 hc
                    refine lv_aload_n hx hb d_M_post_107 rfl (lv_at hl 1 rfl) ?_
                    refine va_get (D := (dC, dI)) (ci := 3) (v := .ref a_sum) (C := R_M) (T := F_M) (N := 16) hx hb hts (kx_in in_M) hown hK hP 0 rfl rfl 8 (by decide) (hts _ (kx_w iw_483)) (fun _ h9 => h9) rfl d_M_post_108 ?_
                    refine lv_iload_n hx hb d_M_post_111 rfl (lv_at hl 2 rfl) ?_
                    refine lv_iload_n hx hb d_M_post_112 rfl (lv_at hl 3 rfl) ?_
                    refine lv_iload_n hx hb d_M_post_113 rfl (lv_at hl 4 rfl) ?_
                    refine kx_calli (ws' := fun u114 => (WS_M_post cI cL cZ h0 a_currency a_sort a_closing a_average a_held a_sum a_told a_left a_step a_outside a_item 0 v_companies v_accounts v_done v_items v_sort v_sum)) (va_runS (As := [.int p0, .int p1, .int p2]) (rest := [.ref a_sum]) ⟨hx, hb, hml, hown, hts⟩ (c_M_cell l dC dI cI cL cZ  H.size p0 p1 p2 hw) ⟨(callB_of 3 hts (kx_good iw_573) rfl rfl rfl (hts _ (kx_w iw_4)) (hts _ (kx_w iw_571)) (by decide +kernel) ⟨Nat.le_of_ble_eq_true rfl, Nat.le_of_ble_eq_true rfl⟩), (hts _ (kx_w iw_572))⟩ (kx_preS hN hK hP hD [] (by decide) rfl) rfl rfl hl.1 rfl (lv_room (Nat.le_of_ble_eq_true rfl)) d_M_post_114 ⟨Nat.le_of_ble_eq_true rfl, Nat.le_of_ble_eq_true rfl⟩) hP hD hS hA [] [0, 1, 2] rfl rfl (by decide) (by decide) [0, 1, 2] (by decide) (fun _ => rfl) (fun r114 u114 H locs hw hP hD hS => ?_)
                    have hP : va_P (dC, dI) classes (WS_M_post cI cL cZ h0 a_currency a_sort a_closing a_average a_held a_sum a_told a_left a_step a_outside a_item 0 v_companies v_accounts v_done v_items v_sort v_sum) H := hP
                    have hD : va_D A (WS_M_post cI cL cZ h0 a_currency a_sort a_closing a_average a_held a_sum a_told a_left a_step a_outside a_item 0 v_companies v_accounts v_done v_items v_sort v_sum) := hD
                    refine lv_lload hx hb d_M_post_117 (lv_at hl 0 rfl) ?_
                    obtain ⟨hi, hw⟩ := hw
                    refine va_last hx hb hK hP hD hS 2 1 rfl rfl hi d_M_post_119 (fun H locs hP hD hS => ?_)
                    have hP : va_P (dC, dI) classes (WS_M_post cI cL cZ h0 a_currency a_sort a_closing a_average a_held a_sum a_told a_left a_step a_outside a_item 0 v_companies v_accounts v_done v_items v_sort (vp_updL v_sum r114.toNatClampNeg x91)) H := hP
                    have hD : va_D A (WS_M_post cI cL cZ h0 a_currency a_sort a_closing a_average a_held a_sum a_told a_left a_step a_outside a_item 0 v_companies v_accounts v_done v_items v_sort (vp_updL v_sum r114.toNatClampNeg x91)) := hD
                    refine lv_iconst (v := 1) hx hb d_M_post_120 (by decide) ?_
                    exact W.zret (v := 1) hx hb hr (by decide) (fun t ht hW => ⟨⟨1, (0, (vp_updL v_sum r114.toNatClampNeg x91)), rfl, hw, ⟨by rw [ht]; exact hP, hD⟩⟩, hS.F ht⟩) hS.2.2 d_M_post_121
                  ·
                    have hc := mt (lc_le _ _).mpr hc
                    have hw := hw.2 hc
                    refine lv_iconst (v := 0) hx hb d_M_post_105 (by decide) ?_
                    exact W.zret (v := 0) hx hb hr (by decide) (fun t ht hW => ⟨⟨0, (0, v_sum), rfl, hw, ⟨by rw [ht]; exact hP, hD⟩⟩, hS.F ht⟩) hS.2.2 d_M_post_106
                ·
                  have hc := mt (lc_ge _ _).mpr hc
                  have hw := hw.2 hc
                  refine lv_iconst (v := 0) hx hb d_M_post_75 (by decide) ?_
                  exact W.zret (v := 0) hx hb hr (by decide) (fun t ht hW => ⟨⟨0, (0, v_sum), rfl, hw, ⟨by rw [ht]; exact hP, hD⟩⟩, hS.F ht⟩) hS.2.2 d_M_post_76
            ·
              have hw := hw.2 hc
              refine lv_iconst (v := 0) hx hb d_M_post_55 (by decide) ?_
              exact W.zret (v := 0) hx hb hr (by decide) (fun t ht hW => ⟨⟨0, (0, v_sum), rfl, hw, ⟨by rw [ht]; exact hP, hD⟩⟩, hS.F ht⟩) hS.2.2 d_M_post_56
/-! ConsolidationDeskModel.historic(IIJ)Z -/
abbrev y_M_historic : MethodName := ⟨"ConsolidationDeskModel", "historic", "(IIJ)Z"⟩
theorem d_M_historic_0 : decode prog_5_method_16_code 0 = .ok (.aload_n 0, 1) := by decide +kernel
theorem d_M_historic_1 : decode prog_5_method_16_code 1 = .ok (.iconst 0, 1) := by decide +kernel
theorem d_M_historic_2 : decode prog_5_method_16_code 2 = .ok (.putfield 49, 3) := by decide +kernel
theorem d_M_historic_5 : decode prog_5_method_16_code 5 = .ok (.aload_n 0, 1) := by decide +kernel
theorem d_M_historic_6 : decode prog_5_method_16_code 6 = .ok (.iload_n 1, 1) := by decide +kernel
theorem d_M_historic_7 : decode prog_5_method_16_code 7 = .ok (.invokevirtual 59, 3) := by decide +kernel
theorem d_M_historic_10 : decode prog_5_method_16_code 10 = .ok (.ifCond .eq 37, 3) := by decide +kernel
theorem d_M_historic_13 : decode prog_5_method_16_code 13 = .ok (.aload_n 0, 1) := by decide +kernel
theorem d_M_historic_14 : decode prog_5_method_16_code 14 = .ok (.iload_n 2, 1) := by decide +kernel
theorem d_M_historic_15 : decode prog_5_method_16_code 15 = .ok (.invokevirtual 68, 3) := by decide +kernel
theorem d_M_historic_18 : decode prog_5_method_16_code 18 = .ok (.ifCond .eq 29, 3) := by decide +kernel
theorem d_M_historic_21 : decode prog_5_method_16_code 21 = .ok (.aload_n 0, 1) := by decide +kernel
theorem d_M_historic_22 : decode prog_5_method_16_code 22 = .ok (.getfield 13, 3) := by decide +kernel
theorem d_M_historic_25 : decode prog_5_method_16_code 25 = .ok (.iload_n 2, 1) := by decide +kernel
theorem d_M_historic_26 : decode prog_5_method_16_code 26 = .ok (.iaload, 1) := by decide +kernel
theorem d_M_historic_27 : decode prog_5_method_16_code 27 = .ok (.iconst 3, 1) := by decide +kernel
theorem d_M_historic_28 : decode prog_5_method_16_code 28 = .ok (.if_icmp .ne 19, 3) := by decide +kernel
theorem d_M_historic_31 : decode prog_5_method_16_code 31 = .ok (.lload_n 3, 1) := by decide +kernel
theorem d_M_historic_32 : decode prog_5_method_16_code 32 = .ok (.ldc2_w 87, 3) := by decide +kernel
theorem d_M_historic_35 : decode prog_5_method_16_code 35 = .ok (.lcmp, 1) := by decide +kernel
theorem d_M_historic_36 : decode prog_5_method_16_code 36 = .ok (.ifCond .gt 11, 3) := by decide +kernel
theorem d_M_historic_39 : decode prog_5_method_16_code 39 = .ok (.lload_n 3, 1) := by decide +kernel
theorem d_M_historic_40 : decode prog_5_method_16_code 40 = .ok (.ldc2_w 89, 3) := by decide +kernel
theorem d_M_historic_43 : decode prog_5_method_16_code 43 = .ok (.lcmp, 1) := by decide +kernel
theorem d_M_historic_44 : decode prog_5_method_16_code 44 = .ok (.ifCond .ge 5, 3) := by decide +kernel
theorem d_M_historic_47 : decode prog_5_method_16_code 47 = .ok (.iconst 0, 1) := by decide +kernel
theorem d_M_historic_48 : decode prog_5_method_16_code 48 = .ok (.ireturn, 1) := by decide +kernel
theorem d_M_historic_49 : decode prog_5_method_16_code 49 = .ok (.aload_n 0, 1) := by decide +kernel
theorem d_M_historic_50 : decode prog_5_method_16_code 50 = .ok (.getfield 29, 3) := by decide +kernel
theorem d_M_historic_53 : decode prog_5_method_16_code 53 = .ok (.bipush 12, 2) := by decide +kernel
theorem d_M_historic_55 : decode prog_5_method_16_code 55 = .ok (.iload_n 1, 1) := by decide +kernel
theorem d_M_historic_56 : decode prog_5_method_16_code 56 = .ok (.imul, 1) := by decide +kernel
theorem d_M_historic_57 : decode prog_5_method_16_code 57 = .ok (.iload_n 2, 1) := by decide +kernel
theorem d_M_historic_58 : decode prog_5_method_16_code 58 = .ok (.iadd, 1) := by decide +kernel
theorem d_M_historic_59 : decode prog_5_method_16_code 59 = .ok (.lload_n 3, 1) := by decide +kernel
theorem d_M_historic_60 : decode prog_5_method_16_code 60 = .ok (.lastore, 1) := by decide +kernel
theorem d_M_historic_61 : decode prog_5_method_16_code 61 = .ok (.iconst 1, 1) := by decide +kernel
theorem d_M_historic_62 : decode prog_5_method_16_code 62 = .ok (.ireturn, 1) := by decide +kernel
abbrev WS_M_historic (cI cL cZ : ClassId)  (h0 a_currency a_sort a_closing a_average a_held a_sum a_told a_left a_step a_outside a_item : Nat) (v_thrown : Int32) (v_companies : Int32) (v_accounts : Int32) (v_done : Int32) (v_items : Int32) (v_sort : (Nat → Int32)) (v_told : (Nat → Int64)) : va_W := [(h0, .inr (3, [.int v_thrown, .int v_companies, .int v_accounts, .ref a_currency, .ref a_sort, .ref a_closing, .ref a_average, .ref a_held, .ref a_sum, .ref a_told, .int v_done, .ref a_left, .ref a_step, .ref a_outside, .int v_items, .ref a_item])), (a_sort, .inl (cI, 12, .inl v_sort)), (a_told, .inl (cL, 144, .inr (.inl v_told)))]
def wp_M_historic  (p0 : Int32) (p1 : Int32) (p2 : Int64) (v_thrown : Int32) (v_companies : Int32) (v_accounts : Int32) (v_sort : (Nat → Int32)) (v_told : (Nat → Int64)) (post : Int32 → (Int32 × (Nat → Int64)) → Prop) : Prop := (wp_M_isCompany p0 v_companies (fun (r7 : Int32) (u7 : Unit) => ((r7 = 0 → post 0 (0, v_told)) ∧ (¬ r7 = 0 → (wp_M_isAccount p1 v_accounts (fun (r15 : Int32) (u15 : Unit) => ((r15 = 0 → post 0 (0, v_told)) ∧ (¬ r15 = 0 → (vp_in p1 12 ∧ ((¬ (v_sort p1.toNatClampNeg) = 3 → post 0 (0, v_told)) ∧ ((v_sort p1.toNatClampNeg) = 3 → ((1000000000000 < p2 → post 0 (0, v_told)) ∧ (¬ 1000000000000 < p2 → (((-1000000000000) ≤ p2 → (vp_in ((12 * p0) + p1) 144 ∧ post 1 (0, (vp_updL v_told (Int32.toNatClampNeg ((12 * p0) + p1)) p2)))) ∧ (¬ (-1000000000000) ≤ p2 → post 0 (0, v_told))))))))))))))))
abbrev ws_M_historic : List Cond := .code y_M_historic prog_5_method_16_code 5 (some .boolean) :: kxW
abbrev rm_M_historic : Room := { frames := 1, cells := 0, slots := 0, locals := 21 }
abbrev QC_M_historic (dC : Nat → ClassId) (dI : Nat → Nat → Nat) (cI cL cZ : ClassId) (A : Nat → Prop)  (h0 a_currency a_sort a_closing a_average a_held a_sum a_told a_left a_step a_outside a_item : Nat) (v_thrown : Int32) (v_companies : Int32) (v_accounts : Int32) (v_done : Int32) (v_items : Int32) (v_sort : (Nat → Int32)) (v_told : (Nat → Int64)) (post : Int32 → (Int32 × (Nat → Int64)) → Prop) : Array Value → State → Outcome → State → Prop := va_Qi post (fun (u : Int32 × (Nat → Int64)) t => kx_B (dC, dI) classes A (WS_M_historic cI cL cZ h0 a_currency a_sort a_closing a_average a_held a_sum a_told a_left a_step a_outside a_item u.1 v_companies v_accounts v_done v_items v_sort u.2) t) A
set_option maxHeartbeats 4000000 in
set_option maxRecDepth 100000 in
theorem c_M_historic (l : Launch) (dC : Nat → ClassId) (dI : Nat → Nat → Nat) (cI cL cZ : ClassId)  (h0 a_currency a_sort a_closing a_average a_held a_sum a_told a_left a_step a_outside a_item : Nat) (v_thrown : Int32) (v_companies : Int32) (v_accounts : Int32) (v_done : Int32) (v_items : Int32) (v_sort : (Nat → Int32)) (v_told : (Nat → Int64)) (sz : Nat) (p0 : Int32) (p1 : Int32) (p2 : Int64) {post : Int32 → (Int32 × (Nat → Int64)) → Prop} (hw : wp_M_historic p0 p1 p2 v_thrown v_companies v_accounts v_sort v_told post) : Met l y_M_historic ws_M_historic rm_M_historic (kx_Pc (dC, dI) classes (kx_T cI cL cZ) (WS_M_historic cI cL cZ h0 a_currency a_sort a_closing a_average a_held a_sum a_told a_left a_step a_outside a_item v_thrown v_companies v_accounts v_done v_items v_sort v_told) sz [.ref h0, .int p0, .int p1, .long p2]) (QC_M_historic dC dI cI cL cZ (va_A (WS_M_historic cI cL cZ h0 a_currency a_sort a_closing a_average a_held a_sum a_told a_left a_step a_outside a_item v_thrown v_companies v_accounts v_done v_items v_sort v_told) sz) h0 a_currency a_sort a_closing a_average a_held a_sum a_told a_left a_step a_outside a_item v_thrown v_companies v_accounts v_done v_items v_sort v_told post) 0 0 (va_A (WS_M_historic cI cL cZ h0 a_currency a_sort a_closing a_average a_held a_sum a_told a_left a_step a_outside a_item v_thrown v_companies v_accounts v_done v_items v_sort v_told) sz) := by
  refine Met.ofW (cc := prog_5_method_16_code) (maxL := 5) (ret := (some .boolean)) (by decide) rfl ?_
  intro p e s m args below meth c s₁ B hml hv
  obtain ⟨rfl, hsz, hP, hK, hD0, hN⟩ := hv
  have hx := B.exec
  have hb := B.bytes
  have hr := B.returns
  have hts := atoms_spec (ws := ws_M_historic) B.pre
  have hown : s.vm.findClass R_M = some m.cls := findClass_of_methodNamed B.named
  have hlocks := B.notSynchronized
  subst hsz
  have hD := hD0.self (sz := s.heap.size)
  generalize hAe : va_A (WS_M_historic cI cL cZ h0 a_currency a_sort a_closing a_average a_held a_sum a_told a_left a_step a_outside a_item v_thrown v_companies v_accounts v_done v_items v_sort v_told) s.heap.size = A at hD ⊢
  have hA : ∀ q : Nat, s.heap.size ≤ q → A q := fun q h => by rw [← hAe]; exact Or.inr h
  have hS : va_S A s.heap s.heap [] := va_S.rf
  have hP : va_P (dC, dI) classes (WS_M_historic cI cL cZ h0 a_currency a_sort a_closing a_average a_held a_sum a_told a_left a_step a_outside a_item v_thrown v_companies v_accounts v_done v_items v_sort v_told) s.heap := hP
  have hl := lv_entry ([.ref h0, .int p0, .int p1, .long p2]) (n := 5) (Nat.le_of_ble_eq_true rfl)
  rw [lg_entry_eq]
  generalize (lg_sl ([.ref h0, .int p0, .int p1, .long p2]) ++ List.replicate (5 - (lg_sl ([.ref h0, .int p0, .int p1, .long p2])).length) Slot.unset).toArray = ls at hl ⊢
  have hl : lv_has ls 5 [(0, .ref h0), (1, .int p0), (2, .int p1), (3, .long p2)] := hl
  unfold wp_M_historic at hw
  refine (show ∀ (H : Heap) (locs : List Loc), va_P (dC, dI) classes (WS_M_historic cI cL cZ h0 a_currency a_sort a_closing a_average a_held a_sum a_told a_left a_step a_outside a_item v_thrown v_companies v_accounts v_done v_items v_sort v_told) H → va_S A s.heap H locs → W p l e (headSpec ws_M_historic rm_M_historic).room s m ([.ref h0, .int p0, .int p1, .long p2] : List Value).toArray below meth c H locs 0 0 (MQ below (QC_M_historic dC dI cI cL cZ A h0 a_currency a_sort a_closing a_average a_held a_sum a_told a_left a_step a_outside a_item v_thrown v_companies v_accounts v_done v_items v_sort v_told post) ([.ref h0, .int p0, .int p1, .long p2] : List Value).toArray s 0 0 A) (F0 m 0 ls []) from ?_) _ _ hP hS
  intro H locs hP hS
  refine lv_aload_n hx hb d_M_historic_0 rfl (lv_at hl 0 rfl) ?_
  refine lv_iconst (v := 0) hx hb d_M_historic_1 (by decide) ?_
  refine va_put (D := (dC, dI)) (ci := 3) (v := .int 0) (ty := .int) (C := R_M) (T := F_M) (N := 16) hx hb hts (kx_in in_M) t_M t_M_ok n_M hown hK hP hD hS 0 rfl rfl 0 (by decide) (hts _ (kx_w iw_475)) (fun _ h9 => h9) rfl (by decide +kernel) rfl rfl (Nat.le_of_ble_eq_true rfl) d_M_historic_2 (fun H locs hP hD hS => ?_)
  have hP : va_P (dC, dI) classes (WS_M_historic cI cL cZ h0 a_currency a_sort a_closing a_average a_held a_sum a_told a_left a_step a_outside a_item 0 v_companies v_accounts v_done v_items v_sort v_told) H := hP
  have hD : va_D A (WS_M_historic cI cL cZ h0 a_currency a_sort a_closing a_average a_held a_sum a_told a_left a_step a_outside a_item 0 v_companies v_accounts v_done v_items v_sort v_told) := hD
  refine lv_aload_n hx hb d_M_historic_5 rfl (lv_at hl 0 rfl) ?_
  refine lv_iload_n hx hb d_M_historic_6 rfl (lv_at hl 1 rfl) ?_
  refine kx_calli (ws' := fun u7 => (WS_M_historic cI cL cZ h0 a_currency a_sort a_closing a_average a_held a_sum a_told a_left a_step a_outside a_item 0 v_companies v_accounts v_done v_items v_sort v_told)) (va_runV (As := [.int p0]) (rest := []) ⟨hx, hb, hml, hown, hts⟩ (c_M_isCompany l dC dI cI cL cZ h0 a_currency a_sort a_closing a_average a_held a_sum a_told a_left a_step a_outside a_item 0 v_companies v_accounts v_done v_items H.size p0 hw) ⟨(callB_of 1 hts (kx_good iw_547) rfl rfl rfl (hts _ (kx_w iw_4)) (hts _ (kx_w iw_544)) (by decide +kernel) ⟨Nat.le_of_ble_eq_true rfl, Nat.le_of_ble_eq_true rfl⟩), (hts _ (kx_w iw_546)), (hts _ (kx_w sl_M_isCompany))⟩ (kx_preV hN hK hP hD [0] (by decide) rfl 0 rfl rfl) rfl rfl hl.1 rfl (lv_room (Nat.le_of_ble_eq_true rfl)) d_M_historic_7 ⟨Nat.le_of_ble_eq_true rfl, Nat.le_of_ble_eq_true rfl⟩) hP hD hS hA [0] [1, 2] rfl rfl (by decide) (by decide) [2, 0, 1] (by decide) (fun _ => rfl) (fun r7 u7 H locs hw hP hD hS => ?_)
  have hP : va_P (dC, dI) classes (WS_M_historic cI cL cZ h0 a_currency a_sort a_closing a_average a_held a_sum a_told a_left a_step a_outside a_item 0 v_companies v_accounts v_done v_items v_sort v_told) H := hP
  have hD : va_D A (WS_M_historic cI cL cZ h0 a_currency a_sort a_closing a_average a_held a_sum a_told a_left a_step a_outside a_item 0 v_companies v_accounts v_done v_items v_sort v_told) := hD
  refine lv_if_eq (tgt := 47) hx hb d_M_historic_10 rfl (fun hc => ?_) (fun hc => ?_)
  ·
    have hw := hw.1 hc
    refine lv_iconst (v := 0) hx hb d_M_historic_47 (by decide) ?_
    exact W.zret (v := 0) hx hb hr (by decide) (fun t ht hW => ⟨⟨0, (0, v_told), rfl, hw, ⟨by rw [ht]; exact hP, hD⟩⟩, hS.F ht⟩) hS.2.2 d_M_historic_48
  ·
    have hw := hw.2 hc
    refine lv_aload_n hx hb d_M_historic_13 rfl (lv_at hl 0 rfl) ?_
    refine lv_iload_n hx hb d_M_historic_14 rfl (lv_at hl 2 rfl) ?_
    refine kx_calli (ws' := fun u15 => (WS_M_historic cI cL cZ h0 a_currency a_sort a_closing a_average a_held a_sum a_told a_left a_step a_outside a_item 0 v_companies v_accounts v_done v_items v_sort v_told)) (va_runV (As := [.int p1]) (rest := []) ⟨hx, hb, hml, hown, hts⟩ (c_M_isAccount l dC dI cI cL cZ h0 a_currency a_sort a_closing a_average a_held a_sum a_told a_left a_step a_outside a_item 0 v_companies v_accounts v_done v_items H.size p1 hw) ⟨(callB_of 1 hts (kx_good iw_564) rfl rfl rfl (hts _ (kx_w iw_4)) (hts _ (kx_w iw_561)) (by decide +kernel) ⟨Nat.le_of_ble_eq_true rfl, Nat.le_of_ble_eq_true rfl⟩), (hts _ (kx_w iw_563)), (hts _ (kx_w sl_M_isAccount))⟩ (kx_preV hN hK hP hD [0] (by decide) rfl 0 rfl rfl) rfl rfl hl.1 rfl (lv_room (Nat.le_of_ble_eq_true rfl)) d_M_historic_15 ⟨Nat.le_of_ble_eq_true rfl, Nat.le_of_ble_eq_true rfl⟩) hP hD hS hA [0] [1, 2] rfl rfl (by decide) (by decide) [2, 0, 1] (by decide) (fun _ => rfl) (fun r15 u15 H locs hw hP hD hS => ?_)
    have hP : va_P (dC, dI) classes (WS_M_historic cI cL cZ h0 a_currency a_sort a_closing a_average a_held a_sum a_told a_left a_step a_outside a_item 0 v_companies v_accounts v_done v_items v_sort v_told) H := hP
    have hD : va_D A (WS_M_historic cI cL cZ h0 a_currency a_sort a_closing a_average a_held a_sum a_told a_left a_step a_outside a_item 0 v_companies v_accounts v_done v_items v_sort v_told) := hD
    refine lv_if_eq (tgt := 47) hx hb d_M_historic_18 rfl (fun hc => ?_) (fun hc => ?_)
    ·
      have hw := hw.1 hc
      refine lv_iconst (v := 0) hx hb d_M_historic_47 (by decide) ?_
      exact W.zret (v := 0) hx hb hr (by decide) (fun t ht hW => ⟨⟨0, (0, v_told), rfl, hw, ⟨by rw [ht]; exact hP, hD⟩⟩, hS.F ht⟩) hS.2.2 d_M_historic_48
    ·
      have hw := hw.2 hc
      refine lv_aload_n hx hb d_M_historic_21 rfl (lv_at hl 0 rfl) ?_
      refine va_get (D := (dC, dI)) (ci := 3) (v := .ref a_sort) (C := R_M) (T := F_M) (N := 16) hx hb hts (kx_in in_M) hown hK hP 0 rfl rfl 4 (by decide) (hts _ (kx_w iw_479)) (fun _ h9 => h9) rfl d_M_historic_22 ?_
      refine lv_iload_n hx hb d_M_historic_25 rfl (lv_at hl 2 rfl) ?_
      obtain ⟨hi, hw⟩ := hw
      refine va_iald hx hb hK hP 1 0 rfl rfl hi d_M_historic_26 ?_
      refine lv_iconst (v := 3) hx hb d_M_historic_27 (by decide) ?_
      refine lv_icmp_ne (tgt := 47) hx hb d_M_historic_28 rfl (fun hc => ?_) (fun hc => ?_)
      ·
        have hw := hw.1 hc
        refine lv_iconst (v := 0) hx hb d_M_historic_47 (by decide) ?_
        exact W.zret (v := 0) hx hb hr (by decide) (fun t ht hW => ⟨⟨0, (0, v_told), rfl, hw, ⟨by rw [ht]; exact hP, hD⟩⟩, hS.F ht⟩) hS.2.2 d_M_historic_48
      ·
        have hw := hw.2 hc
        refine lv_lload_n hx hb d_M_historic_31 rfl (lv_at hl 3 rfl) ?_
        refine lv_ldc2 (v := 1000000000000) hx hb hown (hts _ (kx_w iw_577)) d_M_historic_32 ?_
        refine W.lcmp hx hb d_M_historic_35 ?_
        refine lv_if_gt (tgt := 47) hx hb d_M_historic_36 rfl (fun hc => ?_) (fun hc => ?_)
        ·
          have hc := (lc_gt _ _).mp hc
          have hw := hw.1 hc
          refine lv_iconst (v := 0) hx hb d_M_historic_47 (by decide) ?_
          exact W.zret (v := 0) hx hb hr (by decide) (fun t ht hW => ⟨⟨0, (0, v_told), rfl, hw, ⟨by rw [ht]; exact hP, hD⟩⟩, hS.F ht⟩) hS.2.2 d_M_historic_48
        ·
          have hc := mt (lc_gt _ _).mpr hc
          have hw := hw.2 hc
          refine lv_lload_n hx hb d_M_historic_39 rfl (lv_at hl 3 rfl) ?_
          refine lv_ldc2 (v := (-1000000000000)) hx hb hown (hts _ (kx_w iw_582)) d_M_historic_40 ?_
          refine W.lcmp hx hb d_M_historic_43 ?_
          refine lv_if_ge (tgt := 49) hx hb d_M_historic_44 rfl (fun hc => ?_) (fun hc => ?_)
          ·
            have hc := (lc_ge _ _).mp hc
            have hw := hw.1 hc
            refine lv_aload_n hx hb d_M_historic_49 rfl (lv_at hl 0 rfl) ?_
            refine va_get (D := (dC, dI)) (ci := 3) (v := .ref a_told) (C := R_M) (T := F_M) (N := 16) hx hb hts (kx_in in_M) hown hK hP 0 rfl rfl 9 (by decide) (hts _ (kx_w iw_484)) (fun _ h9 => h9) rfl d_M_historic_50 ?_
            refine lv_bipush (v := 12) hx hb d_M_historic_53 (by decide) ?_
            refine lv_iload_n hx hb d_M_historic_55 rfl (lv_at hl 1 rfl) ?_
            refine lv_imul hx hb d_M_historic_56 ?_
            refine lv_iload_n hx hb d_M_historic_57 rfl (lv_at hl 2 rfl) ?_
            refine lv_iadd hx hb d_M_historic_58 ?_
            refine lv_lload_n hx hb d_M_historic_59 rfl (lv_at hl 3 rfl) ?_
            obtain ⟨hi, hw⟩ := hw
            refine va_last hx hb hK hP hD hS 2 1 rfl rfl hi d_M_historic_60 (fun H locs hP hD hS => ?_)
            have hP : va_P (dC, dI) classes (WS_M_historic cI cL cZ h0 a_currency a_sort a_closing a_average a_held a_sum a_told a_left a_step a_outside a_item 0 v_companies v_accounts v_done v_items v_sort (vp_updL v_told (Int32.toNatClampNeg ((12 * p0) + p1)) p2)) H := hP
            have hD : va_D A (WS_M_historic cI cL cZ h0 a_currency a_sort a_closing a_average a_held a_sum a_told a_left a_step a_outside a_item 0 v_companies v_accounts v_done v_items v_sort (vp_updL v_told (Int32.toNatClampNeg ((12 * p0) + p1)) p2)) := hD
            refine lv_iconst (v := 1) hx hb d_M_historic_61 (by decide) ?_
            exact W.zret (v := 1) hx hb hr (by decide) (fun t ht hW => ⟨⟨1, (0, (vp_updL v_told (Int32.toNatClampNeg ((12 * p0) + p1)) p2)), rfl, hw, ⟨by rw [ht]; exact hP, hD⟩⟩, hS.F ht⟩) hS.2.2 d_M_historic_62
          ·
            have hc := mt (lc_ge _ _).mpr hc
            have hw := hw.2 hc
            refine lv_iconst (v := 0) hx hb d_M_historic_47 (by decide) ?_
            exact W.zret (v := 0) hx hb hr (by decide) (fun t ht hW => ⟨⟨0, (0, v_told), rfl, hw, ⟨by rw [ht]; exact hP, hD⟩⟩, hS.F ht⟩) hS.2.2 d_M_historic_48
/-! ConsolidationDeskModel.posted(III)J -/
abbrev y_M_posted : MethodName := ⟨"ConsolidationDeskModel", "posted", "(III)J"⟩
theorem d_M_posted_0 : decode prog_5_method_17_code 0 = .ok (.aload_n 0, 1) := by decide +kernel
theorem d_M_posted_1 : decode prog_5_method_17_code 1 = .ok (.aload_n 0, 1) := by decide +kernel
theorem d_M_posted_2 : decode prog_5_method_17_code 2 = .ok (.iload_n 1, 1) := by decide +kernel
theorem d_M_posted_3 : decode prog_5_method_17_code 3 = .ok (.invokevirtual 59, 3) := by decide +kernel
theorem d_M_posted_6 : decode prog_5_method_17_code 6 = .ok (.ifCond .eq 24, 3) := by decide +kernel
theorem d_M_posted_9 : decode prog_5_method_17_code 9 = .ok (.aload_n 0, 1) := by decide +kernel
theorem d_M_posted_10 : decode prog_5_method_17_code 10 = .ok (.iload_n 2, 1) := by decide +kernel
theorem d_M_posted_11 : decode prog_5_method_17_code 11 = .ok (.invokevirtual 68, 3) := by decide +kernel
theorem d_M_posted_14 : decode prog_5_method_17_code 14 = .ok (.ifCond .eq 16, 3) := by decide +kernel
theorem d_M_posted_17 : decode prog_5_method_17_code 17 = .ok (.aload_n 0, 1) := by decide +kernel
theorem d_M_posted_18 : decode prog_5_method_17_code 18 = .ok (.iload_n 1, 1) := by decide +kernel
theorem d_M_posted_19 : decode prog_5_method_17_code 19 = .ok (.iload_n 3, 1) := by decide +kernel
theorem d_M_posted_20 : decode prog_5_method_17_code 20 = .ok (.invokevirtual 71, 3) := by decide +kernel
theorem d_M_posted_23 : decode prog_5_method_17_code 23 = .ok (.ifCond .eq 7, 3) := by decide +kernel
theorem d_M_posted_26 : decode prog_5_method_17_code 26 = .ok (.iconst 0, 1) := by decide +kernel
theorem d_M_posted_27 : decode prog_5_method_17_code 27 = .ok (.goto 4, 3) := by decide +kernel
theorem d_M_posted_30 : decode prog_5_method_17_code 30 = .ok (.iconst 1, 1) := by decide +kernel
theorem d_M_posted_31 : decode prog_5_method_17_code 31 = .ok (.putfield 49, 3) := by decide +kernel
theorem d_M_posted_34 : decode prog_5_method_17_code 34 = .ok (.aload_n 0, 1) := by decide +kernel
theorem d_M_posted_35 : decode prog_5_method_17_code 35 = .ok (.getfield 49, 3) := by decide +kernel
theorem d_M_posted_38 : decode prog_5_method_17_code 38 = .ok (.iconst 1, 1) := by decide +kernel
theorem d_M_posted_39 : decode prog_5_method_17_code 39 = .ok (.if_icmp .ne 7, 3) := by decide +kernel
theorem d_M_posted_42 : decode prog_5_method_17_code 42 = .ok (.lconst 0, 1) := by decide +kernel
theorem d_M_posted_43 : decode prog_5_method_17_code 43 = .ok (.goto 14, 3) := by decide +kernel
theorem d_M_posted_46 : decode prog_5_method_17_code 46 = .ok (.aload_n 0, 1) := by decide +kernel
theorem d_M_posted_47 : decode prog_5_method_17_code 47 = .ok (.getfield 25, 3) := by decide +kernel
theorem d_M_posted_50 : decode prog_5_method_17_code 50 = .ok (.iload_n 1, 1) := by decide +kernel
theorem d_M_posted_51 : decode prog_5_method_17_code 51 = .ok (.iload_n 2, 1) := by decide +kernel
theorem d_M_posted_52 : decode prog_5_method_17_code 52 = .ok (.iload_n 3, 1) := by decide +kernel
theorem d_M_posted_53 : decode prog_5_method_17_code 53 = .ok (.invokestatic 79, 3) := by decide +kernel
theorem d_M_posted_56 : decode prog_5_method_17_code 56 = .ok (.laload, 1) := by decide +kernel
theorem d_M_posted_57 : decode prog_5_method_17_code 57 = .ok (.lreturn, 1) := by decide +kernel
abbrev WS_M_posted (cI cL cZ : ClassId)  (h0 a_currency a_sort a_closing a_average a_held a_sum a_told a_left a_step a_outside a_item : Nat) (v_thrown : Int32) (v_companies : Int32) (v_accounts : Int32) (v_done : Int32) (v_items : Int32) (v_sum : (Nat → Int64)) : va_W := [(h0, .inr (3, [.int v_thrown, .int v_companies, .int v_accounts, .ref a_currency, .ref a_sort, .ref a_closing, .ref a_average, .ref a_held, .ref a_sum, .ref a_told, .int v_done, .ref a_left, .ref a_step, .ref a_outside, .int v_items, .ref a_item])), (a_sum, .inl (cL, 1872, .inr (.inl v_sum)))]
def wp_M_posted  (p0 : Int32) (p1 : Int32) (p2 : Int32) (v_thrown : Int32) (v_companies : Int32) (v_accounts : Int32) (v_sum : (Nat → Int64)) (post : Int64 → Int32 → Prop) : Prop := (wp_M_isCompany p0 v_companies (fun (r3 : Int32) (u3 : Unit) => ((r3 = 0 → ((¬ (1 : Int32) = 1 → (wp_M_cell p0 p1 p2 (fun (r53 : Int32) (u53 : Unit) => (vp_in r53 1872 ∧ post (v_sum r53.toNatClampNeg) 1)))) ∧ ((1 : Int32) = 1 → post 0 1))) ∧ (¬ r3 = 0 → (wp_M_isAccount p1 v_accounts (fun (r11 : Int32) (u11 : Unit) => ((r11 = 0 → ((¬ (1 : Int32) = 1 → (wp_M_cell p0 p1 p2 (fun (r53 : Int32) (u53 : Unit) => (vp_in r53 1872 ∧ post (v_sum r53.toNatClampNeg) 1)))) ∧ ((1 : Int32) = 1 → post 0 1))) ∧ (¬ r11 = 0 → (wp_M_isPartner p0 p2 v_companies (fun (r20 : Int32) (u20 : Unit) => ((r20 = 0 → ((¬ (1 : Int32) = 1 → (wp_M_cell p0 p1 p2 (fun (r53 : Int32) (u53 : Unit) => (vp_in r53 1872 ∧ post (v_sum r53.toNatClampNeg) 1)))) ∧ ((1 : Int32) = 1 → post 0 1))) ∧ (¬ r20 = 0 → ((¬ (0 : Int32) = 1 → (wp_M_cell p0 p1 p2 (fun (r53 : Int32) (u53 : Unit) => (vp_in r53 1872 ∧ post (v_sum r53.toNatClampNeg) 0)))) ∧ ((0 : Int32) = 1 → post 0 0))))))))))))))
abbrev ws_M_posted : List Cond := .code y_M_posted prog_5_method_17_code 4 (some .long) :: kxW
abbrev rm_M_posted : Room := { frames := 2, cells := 0, slots := 0, locals := 43 }
abbrev QC_M_posted (dC : Nat → ClassId) (dI : Nat → Nat → Nat) (cI cL cZ : ClassId) (A : Nat → Prop)  (h0 a_currency a_sort a_closing a_average a_held a_sum a_told a_left a_step a_outside a_item : Nat) (v_thrown : Int32) (v_companies : Int32) (v_accounts : Int32) (v_done : Int32) (v_items : Int32) (v_sum : (Nat → Int64)) (post : Int64 → Int32 → Prop) : Array Value → State → Outcome → State → Prop := va_Ql post (fun (u : Int32) t => kx_B (dC, dI) classes A (WS_M_posted cI cL cZ h0 a_currency a_sort a_closing a_average a_held a_sum a_told a_left a_step a_outside a_item u v_companies v_accounts v_done v_items v_sum) t) A
set_option maxHeartbeats 4000000 in
set_option maxRecDepth 100000 in
theorem c_M_posted (l : Launch) (dC : Nat → ClassId) (dI : Nat → Nat → Nat) (cI cL cZ : ClassId)  (h0 a_currency a_sort a_closing a_average a_held a_sum a_told a_left a_step a_outside a_item : Nat) (v_thrown : Int32) (v_companies : Int32) (v_accounts : Int32) (v_done : Int32) (v_items : Int32) (v_sum : (Nat → Int64)) (sz : Nat) (p0 : Int32) (p1 : Int32) (p2 : Int32) {post : Int64 → Int32 → Prop} (hw : wp_M_posted p0 p1 p2 v_thrown v_companies v_accounts v_sum post) : Met l y_M_posted ws_M_posted rm_M_posted (kx_Pc (dC, dI) classes (kx_T cI cL cZ) (WS_M_posted cI cL cZ h0 a_currency a_sort a_closing a_average a_held a_sum a_told a_left a_step a_outside a_item v_thrown v_companies v_accounts v_done v_items v_sum) sz [.ref h0, .int p0, .int p1, .int p2]) (QC_M_posted dC dI cI cL cZ (va_A (WS_M_posted cI cL cZ h0 a_currency a_sort a_closing a_average a_held a_sum a_told a_left a_step a_outside a_item v_thrown v_companies v_accounts v_done v_items v_sum) sz) h0 a_currency a_sort a_closing a_average a_held a_sum a_told a_left a_step a_outside a_item v_thrown v_companies v_accounts v_done v_items v_sum post) 0 0 (va_A (WS_M_posted cI cL cZ h0 a_currency a_sort a_closing a_average a_held a_sum a_told a_left a_step a_outside a_item v_thrown v_companies v_accounts v_done v_items v_sum) sz) := by
  refine Met.ofW (cc := prog_5_method_17_code) (maxL := 4) (ret := (some .long)) (by decide) rfl ?_
  intro p e s m args below meth c s₁ B hml hv
  obtain ⟨rfl, hsz, hP, hK, hD0, hN⟩ := hv
  have hx := B.exec
  have hb := B.bytes
  have hr := B.returns
  have hts := atoms_spec (ws := ws_M_posted) B.pre
  have hown : s.vm.findClass R_M = some m.cls := findClass_of_methodNamed B.named
  have hlocks := B.notSynchronized
  subst hsz
  have hD := hD0.self (sz := s.heap.size)
  generalize hAe : va_A (WS_M_posted cI cL cZ h0 a_currency a_sort a_closing a_average a_held a_sum a_told a_left a_step a_outside a_item v_thrown v_companies v_accounts v_done v_items v_sum) s.heap.size = A at hD ⊢
  have hA : ∀ q : Nat, s.heap.size ≤ q → A q := fun q h => by rw [← hAe]; exact Or.inr h
  have hS : va_S A s.heap s.heap [] := va_S.rf
  have hP : va_P (dC, dI) classes (WS_M_posted cI cL cZ h0 a_currency a_sort a_closing a_average a_held a_sum a_told a_left a_step a_outside a_item v_thrown v_companies v_accounts v_done v_items v_sum) s.heap := hP
  have hl := lv_entry ([.ref h0, .int p0, .int p1, .int p2]) (n := 4) (Nat.le_of_ble_eq_true rfl)
  rw [lg_entry_eq]
  generalize (lg_sl ([.ref h0, .int p0, .int p1, .int p2]) ++ List.replicate (4 - (lg_sl ([.ref h0, .int p0, .int p1, .int p2])).length) Slot.unset).toArray = ls at hl ⊢
  have hl : lv_has ls 4 [(0, .ref h0), (1, .int p0), (2, .int p1), (3, .int p2)] := hl
  unfold wp_M_posted at hw
  refine (show ∀ (H : Heap) (locs : List Loc), va_P (dC, dI) classes (WS_M_posted cI cL cZ h0 a_currency a_sort a_closing a_average a_held a_sum a_told a_left a_step a_outside a_item v_thrown v_companies v_accounts v_done v_items v_sum) H → va_S A s.heap H locs → W p l e (headSpec ws_M_posted rm_M_posted).room s m ([.ref h0, .int p0, .int p1, .int p2] : List Value).toArray below meth c H locs 0 0 (MQ below (QC_M_posted dC dI cI cL cZ A h0 a_currency a_sort a_closing a_average a_held a_sum a_told a_left a_step a_outside a_item v_thrown v_companies v_accounts v_done v_items v_sum post) ([.ref h0, .int p0, .int p1, .int p2] : List Value).toArray s 0 0 A) (F0 m 0 ls []) from ?_) _ _ hP hS
  intro H locs hP hS
  refine lv_aload_n hx hb d_M_posted_0 rfl (lv_at hl 0 rfl) ?_
  refine lv_aload_n hx hb d_M_posted_1 rfl (lv_at hl 0 rfl) ?_
  refine lv_iload_n hx hb d_M_posted_2 rfl (lv_at hl 1 rfl) ?_
  refine kx_calli (ws' := fun u3 => (WS_M_posted cI cL cZ h0 a_currency a_sort a_closing a_average a_held a_sum a_told a_left a_step a_outside a_item v_thrown v_companies v_accounts v_done v_items v_sum)) (va_runV (As := [.int p0]) (rest := [.ref h0]) ⟨hx, hb, hml, hown, hts⟩ (c_M_isCompany l dC dI cI cL cZ h0 a_currency a_sort a_closing a_average a_held a_sum a_told a_left a_step a_outside a_item v_thrown v_companies v_accounts v_done v_items H.size p0 hw) ⟨(callB_of 1 hts (kx_good iw_547) rfl rfl rfl (hts _ (kx_w iw_4)) (hts _ (kx_w iw_544)) (by decide +kernel) ⟨Nat.le_of_ble_eq_true rfl, Nat.le_of_ble_eq_true rfl⟩), (hts _ (kx_w iw_546)), (hts _ (kx_w sl_M_isCompany))⟩ (kx_preV hN hK hP hD [0] (by decide) rfl 0 rfl rfl) rfl rfl hl.1 rfl (lv_room (Nat.le_of_ble_eq_true rfl)) d_M_posted_3 ⟨Nat.le_of_ble_eq_true rfl, Nat.le_of_ble_eq_true rfl⟩) hP hD hS hA [0] [1] rfl rfl (by decide) (by decide) [1, 0] (by decide) (fun _ => rfl) (fun r3 u3 H locs hw hP hD hS => ?_)
  have hP : va_P (dC, dI) classes (WS_M_posted cI cL cZ h0 a_currency a_sort a_closing a_average a_held a_sum a_told a_left a_step a_outside a_item v_thrown v_companies v_accounts v_done v_items v_sum) H := hP
  have hD : va_D A (WS_M_posted cI cL cZ h0 a_currency a_sort a_closing a_average a_held a_sum a_told a_left a_step a_outside a_item v_thrown v_companies v_accounts v_done v_items v_sum) := hD
  refine lv_if_eq (tgt := 30) hx hb d_M_posted_6 rfl (fun hc => ?_) (fun hc => ?_)
  ·
    have hw := hw.1 hc
    refine lv_iconst (v := 1) hx hb d_M_posted_30 (by decide) ?_
    refine va_put (D := (dC, dI)) (ci := 3) (v := .int 1) (ty := .int) (C := R_M) (T := F_M) (N := 16) hx hb hts (kx_in in_M) t_M t_M_ok n_M hown hK hP hD hS 0 rfl rfl 0 (by decide) (hts _ (kx_w iw_475)) (fun _ h9 => h9) rfl (by decide +kernel) rfl rfl (Nat.le_of_ble_eq_true rfl) d_M_posted_31 (fun H locs hP hD hS => ?_)
    have hP : va_P (dC, dI) classes (WS_M_posted cI cL cZ h0 a_currency a_sort a_closing a_average a_held a_sum a_told a_left a_step a_outside a_item 1 v_companies v_accounts v_done v_items v_sum) H := hP
    have hD : va_D A (WS_M_posted cI cL cZ h0 a_currency a_sort a_closing a_average a_held a_sum a_told a_left a_step a_outside a_item 1 v_companies v_accounts v_done v_items v_sum) := hD
    refine lv_aload_n hx hb d_M_posted_34 rfl (lv_at hl 0 rfl) ?_
    refine va_get (D := (dC, dI)) (ci := 3) (v := .int 1) (C := R_M) (T := F_M) (N := 16) hx hb hts (kx_in in_M) hown hK hP 0 rfl rfl 0 (by decide) (hts _ (kx_w iw_475)) (fun _ h9 => h9) rfl d_M_posted_35 ?_
    refine lv_iconst (v := 1) hx hb d_M_posted_38 (by decide) ?_
    refine lv_icmp_ne (tgt := 46) hx hb d_M_posted_39 rfl (fun hc => ?_) (fun hc => ?_)
    ·
      have hw := hw.1 hc
      refine lv_aload_n hx hb d_M_posted_46 rfl (lv_at hl 0 rfl) ?_
      refine va_get (D := (dC, dI)) (ci := 3) (v := .ref a_sum) (C := R_M) (T := F_M) (N := 16) hx hb hts (kx_in in_M) hown hK hP 0 rfl rfl 8 (by decide) (hts _ (kx_w iw_483)) (fun _ h9 => h9) rfl d_M_posted_47 ?_
      refine lv_iload_n hx hb d_M_posted_50 rfl (lv_at hl 1 rfl) ?_
      refine lv_iload_n hx hb d_M_posted_51 rfl (lv_at hl 2 rfl) ?_
      refine lv_iload_n hx hb d_M_posted_52 rfl (lv_at hl 3 rfl) ?_
      refine kx_calli (ws' := fun u53 => (WS_M_posted cI cL cZ h0 a_currency a_sort a_closing a_average a_held a_sum a_told a_left a_step a_outside a_item 1 v_companies v_accounts v_done v_items v_sum)) (va_runS (As := [.int p0, .int p1, .int p2]) (rest := [.ref a_sum]) ⟨hx, hb, hml, hown, hts⟩ (c_M_cell l dC dI cI cL cZ  H.size p0 p1 p2 hw) ⟨(callB_of 3 hts (kx_good iw_573) rfl rfl rfl (hts _ (kx_w iw_4)) (hts _ (kx_w iw_571)) (by decide +kernel) ⟨Nat.le_of_ble_eq_true rfl, Nat.le_of_ble_eq_true rfl⟩), (hts _ (kx_w iw_572))⟩ (kx_preS hN hK hP hD [] (by decide) rfl) rfl rfl hl.1 rfl (lv_room (Nat.le_of_ble_eq_true rfl)) d_M_posted_53 ⟨Nat.le_of_ble_eq_true rfl, Nat.le_of_ble_eq_true rfl⟩) hP hD hS hA [] [0, 1] rfl rfl (by decide) (by decide) [0, 1] (by decide) (fun _ => rfl) (fun r53 u53 H locs hw hP hD hS => ?_)
      have hP : va_P (dC, dI) classes (WS_M_posted cI cL cZ h0 a_currency a_sort a_closing a_average a_held a_sum a_told a_left a_step a_outside a_item 1 v_companies v_accounts v_done v_items v_sum) H := hP
      have hD : va_D A (WS_M_posted cI cL cZ h0 a_currency a_sort a_closing a_average a_held a_sum a_told a_left a_step a_outside a_item 1 v_companies v_accounts v_done v_items v_sum) := hD
      obtain ⟨hi, hw⟩ := hw
      refine va_lald hx hb hK hP 1 1 rfl rfl hi d_M_posted_56 ?_
      exact W.lret (v := (v_sum r53.toNatClampNeg)) hx hb hr (fun t ht hW => ⟨⟨(v_sum r53.toNatClampNeg), 1, rfl, hw, ⟨by rw [ht]; exact hP, hD⟩⟩, hS.F ht⟩) hS.2.2 d_M_posted_57
    ·
      have hw := hw.2 hc
      refine lv_lconst (v := 0) hx hb d_M_posted_42 (by decide) ?_
      refine lv_goto (tgt := 57) hx hb d_M_posted_43 rfl ?_
      exact W.lret (v := 0) hx hb hr (fun t ht hW => ⟨⟨0, 1, rfl, hw, ⟨by rw [ht]; exact hP, hD⟩⟩, hS.F ht⟩) hS.2.2 d_M_posted_57
  ·
    have hw := hw.2 hc
    refine lv_aload_n hx hb d_M_posted_9 rfl (lv_at hl 0 rfl) ?_
    refine lv_iload_n hx hb d_M_posted_10 rfl (lv_at hl 2 rfl) ?_
    refine kx_calli (ws' := fun u11 => (WS_M_posted cI cL cZ h0 a_currency a_sort a_closing a_average a_held a_sum a_told a_left a_step a_outside a_item v_thrown v_companies v_accounts v_done v_items v_sum)) (va_runV (As := [.int p1]) (rest := [.ref h0]) ⟨hx, hb, hml, hown, hts⟩ (c_M_isAccount l dC dI cI cL cZ h0 a_currency a_sort a_closing a_average a_held a_sum a_told a_left a_step a_outside a_item v_thrown v_companies v_accounts v_done v_items H.size p1 hw) ⟨(callB_of 1 hts (kx_good iw_564) rfl rfl rfl (hts _ (kx_w iw_4)) (hts _ (kx_w iw_561)) (by decide +kernel) ⟨Nat.le_of_ble_eq_true rfl, Nat.le_of_ble_eq_true rfl⟩), (hts _ (kx_w iw_563)), (hts _ (kx_w sl_M_isAccount))⟩ (kx_preV hN hK hP hD [0] (by decide) rfl 0 rfl rfl) rfl rfl hl.1 rfl (lv_room (Nat.le_of_ble_eq_true rfl)) d_M_posted_11 ⟨Nat.le_of_ble_eq_true rfl, Nat.le_of_ble_eq_true rfl⟩) hP hD hS hA [0] [1] rfl rfl (by decide) (by decide) [1, 0] (by decide) (fun _ => rfl) (fun r11 u11 H locs hw hP hD hS => ?_)
    have hP : va_P (dC, dI) classes (WS_M_posted cI cL cZ h0 a_currency a_sort a_closing a_average a_held a_sum a_told a_left a_step a_outside a_item v_thrown v_companies v_accounts v_done v_items v_sum) H := hP
    have hD : va_D A (WS_M_posted cI cL cZ h0 a_currency a_sort a_closing a_average a_held a_sum a_told a_left a_step a_outside a_item v_thrown v_companies v_accounts v_done v_items v_sum) := hD
    refine lv_if_eq (tgt := 30) hx hb d_M_posted_14 rfl (fun hc => ?_) (fun hc => ?_)
    ·
      have hw := hw.1 hc
      refine lv_iconst (v := 1) hx hb d_M_posted_30 (by decide) ?_
      refine va_put (D := (dC, dI)) (ci := 3) (v := .int 1) (ty := .int) (C := R_M) (T := F_M) (N := 16) hx hb hts (kx_in in_M) t_M t_M_ok n_M hown hK hP hD hS 0 rfl rfl 0 (by decide) (hts _ (kx_w iw_475)) (fun _ h9 => h9) rfl (by decide +kernel) rfl rfl (Nat.le_of_ble_eq_true rfl) d_M_posted_31 (fun H locs hP hD hS => ?_)
      have hP : va_P (dC, dI) classes (WS_M_posted cI cL cZ h0 a_currency a_sort a_closing a_average a_held a_sum a_told a_left a_step a_outside a_item 1 v_companies v_accounts v_done v_items v_sum) H := hP
      have hD : va_D A (WS_M_posted cI cL cZ h0 a_currency a_sort a_closing a_average a_held a_sum a_told a_left a_step a_outside a_item 1 v_companies v_accounts v_done v_items v_sum) := hD
      refine lv_aload_n hx hb d_M_posted_34 rfl (lv_at hl 0 rfl) ?_
      refine va_get (D := (dC, dI)) (ci := 3) (v := .int 1) (C := R_M) (T := F_M) (N := 16) hx hb hts (kx_in in_M) hown hK hP 0 rfl rfl 0 (by decide) (hts _ (kx_w iw_475)) (fun _ h9 => h9) rfl d_M_posted_35 ?_
      refine lv_iconst (v := 1) hx hb d_M_posted_38 (by decide) ?_
      refine lv_icmp_ne (tgt := 46) hx hb d_M_posted_39 rfl (fun hc => ?_) (fun hc => ?_)
      ·
        have hw := hw.1 hc
        refine lv_aload_n hx hb d_M_posted_46 rfl (lv_at hl 0 rfl) ?_
        refine va_get (D := (dC, dI)) (ci := 3) (v := .ref a_sum) (C := R_M) (T := F_M) (N := 16) hx hb hts (kx_in in_M) hown hK hP 0 rfl rfl 8 (by decide) (hts _ (kx_w iw_483)) (fun _ h9 => h9) rfl d_M_posted_47 ?_
        refine lv_iload_n hx hb d_M_posted_50 rfl (lv_at hl 1 rfl) ?_
        refine lv_iload_n hx hb d_M_posted_51 rfl (lv_at hl 2 rfl) ?_
        refine lv_iload_n hx hb d_M_posted_52 rfl (lv_at hl 3 rfl) ?_
        refine kx_calli (ws' := fun u53 => (WS_M_posted cI cL cZ h0 a_currency a_sort a_closing a_average a_held a_sum a_told a_left a_step a_outside a_item 1 v_companies v_accounts v_done v_items v_sum)) (va_runS (As := [.int p0, .int p1, .int p2]) (rest := [.ref a_sum]) ⟨hx, hb, hml, hown, hts⟩ (c_M_cell l dC dI cI cL cZ  H.size p0 p1 p2 hw) ⟨(callB_of 3 hts (kx_good iw_573) rfl rfl rfl (hts _ (kx_w iw_4)) (hts _ (kx_w iw_571)) (by decide +kernel) ⟨Nat.le_of_ble_eq_true rfl, Nat.le_of_ble_eq_true rfl⟩), (hts _ (kx_w iw_572))⟩ (kx_preS hN hK hP hD [] (by decide) rfl) rfl rfl hl.1 rfl (lv_room (Nat.le_of_ble_eq_true rfl)) d_M_posted_53 ⟨Nat.le_of_ble_eq_true rfl, Nat.le_of_ble_eq_true rfl⟩) hP hD hS hA [] [0, 1] rfl rfl (by decide) (by decide) [0, 1] (by decide) (fun _ => rfl) (fun r53 u53 H locs hw hP hD hS => ?_)
        have hP : va_P (dC, dI) classes (WS_M_posted cI cL cZ h0 a_currency a_sort a_closing a_average a_held a_sum a_told a_left a_step a_outside a_item 1 v_companies v_accounts v_done v_items v_sum) H := hP
        have hD : va_D A (WS_M_posted cI cL cZ h0 a_currency a_sort a_closing a_average a_held a_sum a_told a_left a_step a_outside a_item 1 v_companies v_accounts v_done v_items v_sum) := hD
        obtain ⟨hi, hw⟩ := hw
        refine va_lald hx hb hK hP 1 1 rfl rfl hi d_M_posted_56 ?_
        exact W.lret (v := (v_sum r53.toNatClampNeg)) hx hb hr (fun t ht hW => ⟨⟨(v_sum r53.toNatClampNeg), 1, rfl, hw, ⟨by rw [ht]; exact hP, hD⟩⟩, hS.F ht⟩) hS.2.2 d_M_posted_57
      ·
        have hw := hw.2 hc
        refine lv_lconst (v := 0) hx hb d_M_posted_42 (by decide) ?_
        refine lv_goto (tgt := 57) hx hb d_M_posted_43 rfl ?_
        exact W.lret (v := 0) hx hb hr (fun t ht hW => ⟨⟨0, 1, rfl, hw, ⟨by rw [ht]; exact hP, hD⟩⟩, hS.F ht⟩) hS.2.2 d_M_posted_57
    ·
      have hw := hw.2 hc
      refine lv_aload_n hx hb d_M_posted_17 rfl (lv_at hl 0 rfl) ?_
      refine lv_iload_n hx hb d_M_posted_18 rfl (lv_at hl 1 rfl) ?_
      refine lv_iload_n hx hb d_M_posted_19 rfl (lv_at hl 3 rfl) ?_
      refine kx_calli (ws' := fun u20 => (WS_M_posted cI cL cZ h0 a_currency a_sort a_closing a_average a_held a_sum a_told a_left a_step a_outside a_item v_thrown v_companies v_accounts v_done v_items v_sum)) (va_runV (As := [.int p0, .int p2]) (rest := [.ref h0]) ⟨hx, hb, hml, hown, hts⟩ (c_M_isPartner l dC dI cI cL cZ h0 a_currency a_sort a_closing a_average a_held a_sum a_told a_left a_step a_outside a_item v_thrown v_companies v_accounts v_done v_items H.size p0 p2 hw) ⟨(callB_of 2 hts (kx_good iw_568) rfl rfl rfl (hts _ (kx_w iw_4)) (hts _ (kx_w iw_565)) (by decide +kernel) ⟨Nat.le_of_ble_eq_true rfl, Nat.le_of_ble_eq_true rfl⟩), (hts _ (kx_w iw_567)), (hts _ (kx_w sl_M_isPartner))⟩ (kx_preV hN hK hP hD [0] (by decide) rfl 0 rfl rfl) rfl rfl hl.1 rfl (lv_room (Nat.le_of_ble_eq_true rfl)) d_M_posted_20 ⟨Nat.le_of_ble_eq_true rfl, Nat.le_of_ble_eq_true rfl⟩) hP hD hS hA [0] [1] rfl rfl (by decide) (by decide) [1, 0] (by decide) (fun _ => rfl) (fun r20 u20 H locs hw hP hD hS => ?_)
      have hP : va_P (dC, dI) classes (WS_M_posted cI cL cZ h0 a_currency a_sort a_closing a_average a_held a_sum a_told a_left a_step a_outside a_item v_thrown v_companies v_accounts v_done v_items v_sum) H := hP
      have hD : va_D A (WS_M_posted cI cL cZ h0 a_currency a_sort a_closing a_average a_held a_sum a_told a_left a_step a_outside a_item v_thrown v_companies v_accounts v_done v_items v_sum) := hD
      refine lv_if_eq (tgt := 30) hx hb d_M_posted_23 rfl (fun hc => ?_) (fun hc => ?_)
      ·
        have hw := hw.1 hc
        refine lv_iconst (v := 1) hx hb d_M_posted_30 (by decide) ?_
        refine va_put (D := (dC, dI)) (ci := 3) (v := .int 1) (ty := .int) (C := R_M) (T := F_M) (N := 16) hx hb hts (kx_in in_M) t_M t_M_ok n_M hown hK hP hD hS 0 rfl rfl 0 (by decide) (hts _ (kx_w iw_475)) (fun _ h9 => h9) rfl (by decide +kernel) rfl rfl (Nat.le_of_ble_eq_true rfl) d_M_posted_31 (fun H locs hP hD hS => ?_)
        have hP : va_P (dC, dI) classes (WS_M_posted cI cL cZ h0 a_currency a_sort a_closing a_average a_held a_sum a_told a_left a_step a_outside a_item 1 v_companies v_accounts v_done v_items v_sum) H := hP
        have hD : va_D A (WS_M_posted cI cL cZ h0 a_currency a_sort a_closing a_average a_held a_sum a_told a_left a_step a_outside a_item 1 v_companies v_accounts v_done v_items v_sum) := hD
        refine lv_aload_n hx hb d_M_posted_34 rfl (lv_at hl 0 rfl) ?_
        refine va_get (D := (dC, dI)) (ci := 3) (v := .int 1) (C := R_M) (T := F_M) (N := 16) hx hb hts (kx_in in_M) hown hK hP 0 rfl rfl 0 (by decide) (hts _ (kx_w iw_475)) (fun _ h9 => h9) rfl d_M_posted_35 ?_
        refine lv_iconst (v := 1) hx hb d_M_posted_38 (by decide) ?_
        refine lv_icmp_ne (tgt := 46) hx hb d_M_posted_39 rfl (fun hc => ?_) (fun hc => ?_)
        ·
          have hw := hw.1 hc
          refine lv_aload_n hx hb d_M_posted_46 rfl (lv_at hl 0 rfl) ?_
          refine va_get (D := (dC, dI)) (ci := 3) (v := .ref a_sum) (C := R_M) (T := F_M) (N := 16) hx hb hts (kx_in in_M) hown hK hP 0 rfl rfl 8 (by decide) (hts _ (kx_w iw_483)) (fun _ h9 => h9) rfl d_M_posted_47 ?_
          refine lv_iload_n hx hb d_M_posted_50 rfl (lv_at hl 1 rfl) ?_
          refine lv_iload_n hx hb d_M_posted_51 rfl (lv_at hl 2 rfl) ?_
          refine lv_iload_n hx hb d_M_posted_52 rfl (lv_at hl 3 rfl) ?_
          refine kx_calli (ws' := fun u53 => (WS_M_posted cI cL cZ h0 a_currency a_sort a_closing a_average a_held a_sum a_told a_left a_step a_outside a_item 1 v_companies v_accounts v_done v_items v_sum)) (va_runS (As := [.int p0, .int p1, .int p2]) (rest := [.ref a_sum]) ⟨hx, hb, hml, hown, hts⟩ (c_M_cell l dC dI cI cL cZ  H.size p0 p1 p2 hw) ⟨(callB_of 3 hts (kx_good iw_573) rfl rfl rfl (hts _ (kx_w iw_4)) (hts _ (kx_w iw_571)) (by decide +kernel) ⟨Nat.le_of_ble_eq_true rfl, Nat.le_of_ble_eq_true rfl⟩), (hts _ (kx_w iw_572))⟩ (kx_preS hN hK hP hD [] (by decide) rfl) rfl rfl hl.1 rfl (lv_room (Nat.le_of_ble_eq_true rfl)) d_M_posted_53 ⟨Nat.le_of_ble_eq_true rfl, Nat.le_of_ble_eq_true rfl⟩) hP hD hS hA [] [0, 1] rfl rfl (by decide) (by decide) [0, 1] (by decide) (fun _ => rfl) (fun r53 u53 H locs hw hP hD hS => ?_)
          have hP : va_P (dC, dI) classes (WS_M_posted cI cL cZ h0 a_currency a_sort a_closing a_average a_held a_sum a_told a_left a_step a_outside a_item 1 v_companies v_accounts v_done v_items v_sum) H := hP
          have hD : va_D A (WS_M_posted cI cL cZ h0 a_currency a_sort a_closing a_average a_held a_sum a_told a_left a_step a_outside a_item 1 v_companies v_accounts v_done v_items v_sum) := hD
          obtain ⟨hi, hw⟩ := hw
          refine va_lald hx hb hK hP 1 1 rfl rfl hi d_M_posted_56 ?_
          exact W.lret (v := (v_sum r53.toNatClampNeg)) hx hb hr (fun t ht hW => ⟨⟨(v_sum r53.toNatClampNeg), 1, rfl, hw, ⟨by rw [ht]; exact hP, hD⟩⟩, hS.F ht⟩) hS.2.2 d_M_posted_57
        ·
          have hw := hw.2 hc
          refine lv_lconst (v := 0) hx hb d_M_posted_42 (by decide) ?_
          refine lv_goto (tgt := 57) hx hb d_M_posted_43 rfl ?_
          exact W.lret (v := 0) hx hb hr (fun t ht hW => ⟨⟨0, 1, rfl, hw, ⟨by rw [ht]; exact hP, hD⟩⟩, hS.F ht⟩) hS.2.2 d_M_posted_57
      ·
        have hw := hw.2 hc
        refine lv_iconst (v := 0) hx hb d_M_posted_26 (by decide) ?_
        refine lv_goto (tgt := 31) hx hb d_M_posted_27 rfl ?_
        refine va_put (D := (dC, dI)) (ci := 3) (v := .int 0) (ty := .int) (C := R_M) (T := F_M) (N := 16) hx hb hts (kx_in in_M) t_M t_M_ok n_M hown hK hP hD hS 0 rfl rfl 0 (by decide) (hts _ (kx_w iw_475)) (fun _ h9 => h9) rfl (by decide +kernel) rfl rfl (Nat.le_of_ble_eq_true rfl) d_M_posted_31 (fun H locs hP hD hS => ?_)
        have hP : va_P (dC, dI) classes (WS_M_posted cI cL cZ h0 a_currency a_sort a_closing a_average a_held a_sum a_told a_left a_step a_outside a_item 0 v_companies v_accounts v_done v_items v_sum) H := hP
        have hD : va_D A (WS_M_posted cI cL cZ h0 a_currency a_sort a_closing a_average a_held a_sum a_told a_left a_step a_outside a_item 0 v_companies v_accounts v_done v_items v_sum) := hD
        refine lv_aload_n hx hb d_M_posted_34 rfl (lv_at hl 0 rfl) ?_
        refine va_get (D := (dC, dI)) (ci := 3) (v := .int 0) (C := R_M) (T := F_M) (N := 16) hx hb hts (kx_in in_M) hown hK hP 0 rfl rfl 0 (by decide) (hts _ (kx_w iw_475)) (fun _ h9 => h9) rfl d_M_posted_35 ?_
        refine lv_iconst (v := 1) hx hb d_M_posted_38 (by decide) ?_
        refine lv_icmp_ne (tgt := 46) hx hb d_M_posted_39 rfl (fun hc => ?_) (fun hc => ?_)
        ·
          have hw := hw.1 hc
          refine lv_aload_n hx hb d_M_posted_46 rfl (lv_at hl 0 rfl) ?_
          refine va_get (D := (dC, dI)) (ci := 3) (v := .ref a_sum) (C := R_M) (T := F_M) (N := 16) hx hb hts (kx_in in_M) hown hK hP 0 rfl rfl 8 (by decide) (hts _ (kx_w iw_483)) (fun _ h9 => h9) rfl d_M_posted_47 ?_
          refine lv_iload_n hx hb d_M_posted_50 rfl (lv_at hl 1 rfl) ?_
          refine lv_iload_n hx hb d_M_posted_51 rfl (lv_at hl 2 rfl) ?_
          refine lv_iload_n hx hb d_M_posted_52 rfl (lv_at hl 3 rfl) ?_
          refine kx_calli (ws' := fun u53 => (WS_M_posted cI cL cZ h0 a_currency a_sort a_closing a_average a_held a_sum a_told a_left a_step a_outside a_item 0 v_companies v_accounts v_done v_items v_sum)) (va_runS (As := [.int p0, .int p1, .int p2]) (rest := [.ref a_sum]) ⟨hx, hb, hml, hown, hts⟩ (c_M_cell l dC dI cI cL cZ  H.size p0 p1 p2 hw) ⟨(callB_of 3 hts (kx_good iw_573) rfl rfl rfl (hts _ (kx_w iw_4)) (hts _ (kx_w iw_571)) (by decide +kernel) ⟨Nat.le_of_ble_eq_true rfl, Nat.le_of_ble_eq_true rfl⟩), (hts _ (kx_w iw_572))⟩ (kx_preS hN hK hP hD [] (by decide) rfl) rfl rfl hl.1 rfl (lv_room (Nat.le_of_ble_eq_true rfl)) d_M_posted_53 ⟨Nat.le_of_ble_eq_true rfl, Nat.le_of_ble_eq_true rfl⟩) hP hD hS hA [] [0, 1] rfl rfl (by decide) (by decide) [0, 1] (by decide) (fun _ => rfl) (fun r53 u53 H locs hw hP hD hS => ?_)
          have hP : va_P (dC, dI) classes (WS_M_posted cI cL cZ h0 a_currency a_sort a_closing a_average a_held a_sum a_told a_left a_step a_outside a_item 0 v_companies v_accounts v_done v_items v_sum) H := hP
          have hD : va_D A (WS_M_posted cI cL cZ h0 a_currency a_sort a_closing a_average a_held a_sum a_told a_left a_step a_outside a_item 0 v_companies v_accounts v_done v_items v_sum) := hD
          obtain ⟨hi, hw⟩ := hw
          refine va_lald hx hb hK hP 1 1 rfl rfl hi d_M_posted_56 ?_
          exact W.lret (v := (v_sum r53.toNatClampNeg)) hx hb hr (fun t ht hW => ⟨⟨(v_sum r53.toNatClampNeg), 0, rfl, hw, ⟨by rw [ht]; exact hP, hD⟩⟩, hS.F ht⟩) hS.2.2 d_M_posted_57
        ·
          have hw := hw.2 hc
          refine lv_lconst (v := 0) hx hb d_M_posted_42 (by decide) ?_
          refine lv_goto (tgt := 57) hx hb d_M_posted_43 rfl ?_
          exact W.lret (v := 0) hx hb hr (fun t ht hW => ⟨⟨0, 0, rfl, hw, ⟨by rw [ht]; exact hP, hD⟩⟩, hS.F ht⟩) hS.2.2 d_M_posted_57
/-! ConsolidationDeskModel.isBalanced(I)I -/
abbrev y_M_isBalanced : MethodName := ⟨"ConsolidationDeskModel", "isBalanced", "(I)I"⟩
theorem d_M_isBalanced_0 : decode prog_5_method_18_code 0 = .ok (.aload_n 0, 1) := by decide +kernel
theorem d_M_isBalanced_1 : decode prog_5_method_18_code 1 = .ok (.iconst 0, 1) := by decide +kernel
theorem d_M_isBalanced_2 : decode prog_5_method_18_code 2 = .ok (.putfield 49, 3) := by decide +kernel
theorem d_M_isBalanced_5 : decode prog_5_method_18_code 5 = .ok (.aload_n 0, 1) := by decide +kernel
theorem d_M_isBalanced_6 : decode prog_5_method_18_code 6 = .ok (.iload_n 1, 1) := by decide +kernel
theorem d_M_isBalanced_7 : decode prog_5_method_18_code 7 = .ok (.invokevirtual 59, 3) := by decide +kernel
theorem d_M_isBalanced_10 : decode prog_5_method_18_code 10 = .ok (.ifCond .ne 5, 3) := by decide +kernel
theorem d_M_isBalanced_13 : decode prog_5_method_18_code 13 = .ok (.iconst (-1), 1) := by decide +kernel
theorem d_M_isBalanced_14 : decode prog_5_method_18_code 14 = .ok (.ireturn, 1) := by decide +kernel
theorem d_M_isBalanced_15 : decode prog_5_method_18_code 15 = .ok (.lconst 0, 1) := by decide +kernel
theorem d_M_isBalanced_16 : decode prog_5_method_18_code 16 = .ok (.lstore_n 2, 1) := by decide +kernel
theorem d_M_isBalanced_17 : decode prog_5_method_18_code 17 = .ok (.iconst 0, 1) := by decide +kernel
theorem d_M_isBalanced_18 : decode prog_5_method_18_code 18 = .ok (.istore 4, 2) := by decide +kernel
theorem d_M_isBalanced_20 : decode prog_5_method_18_code 20 = .ok (.iload 4, 2) := by decide +kernel
theorem d_M_isBalanced_22 : decode prog_5_method_18_code 22 = .ok (.sipush 156, 3) := by decide +kernel
theorem d_M_isBalanced_25 : decode prog_5_method_18_code 25 = .ok (.if_icmp .ge 25, 3) := by decide +kernel
theorem d_M_isBalanced_28 : decode prog_5_method_18_code 28 = .ok (.lload_n 2, 1) := by decide +kernel
theorem d_M_isBalanced_29 : decode prog_5_method_18_code 29 = .ok (.aload_n 0, 1) := by decide +kernel
theorem d_M_isBalanced_30 : decode prog_5_method_18_code 30 = .ok (.getfield 25, 3) := by decide +kernel
theorem d_M_isBalanced_33 : decode prog_5_method_18_code 33 = .ok (.sipush 156, 3) := by decide +kernel
theorem d_M_isBalanced_36 : decode prog_5_method_18_code 36 = .ok (.iload_n 1, 1) := by decide +kernel
theorem d_M_isBalanced_37 : decode prog_5_method_18_code 37 = .ok (.imul, 1) := by decide +kernel
theorem d_M_isBalanced_38 : decode prog_5_method_18_code 38 = .ok (.iload 4, 2) := by decide +kernel
theorem d_M_isBalanced_40 : decode prog_5_method_18_code 40 = .ok (.iadd, 1) := by decide +kernel
theorem d_M_isBalanced_41 : decode prog_5_method_18_code 41 = .ok (.laload, 1) := by decide +kernel
theorem d_M_isBalanced_42 : decode prog_5_method_18_code 42 = .ok (.ladd, 1) := by decide +kernel
theorem d_M_isBalanced_43 : decode prog_5_method_18_code 43 = .ok (.lstore_n 2, 1) := by decide +kernel
theorem d_M_isBalanced_44 : decode prog_5_method_18_code 44 = .ok (.iinc 4 1, 3) := by decide +kernel
theorem d_M_isBalanced_47 : decode prog_5_method_18_code 47 = .ok (.goto (-27), 3) := by decide +kernel
theorem d_M_isBalanced_50 : decode prog_5_method_18_code 50 = .ok (.lload_n 2, 1) := by decide +kernel
theorem d_M_isBalanced_51 : decode prog_5_method_18_code 51 = .ok (.lconst 0, 1) := by decide +kernel
theorem d_M_isBalanced_52 : decode prog_5_method_18_code 52 = .ok (.lcmp, 1) := by decide +kernel
theorem d_M_isBalanced_53 : decode prog_5_method_18_code 53 = .ok (.ifCond .ne 7, 3) := by decide +kernel
theorem d_M_isBalanced_56 : decode prog_5_method_18_code 56 = .ok (.iconst 1, 1) := by decide +kernel
theorem d_M_isBalanced_57 : decode prog_5_method_18_code 57 = .ok (.goto 4, 3) := by decide +kernel
theorem d_M_isBalanced_60 : decode prog_5_method_18_code 60 = .ok (.iconst 0, 1) := by decide +kernel
theorem d_M_isBalanced_61 : decode prog_5_method_18_code 61 = .ok (.ireturn, 1) := by decide +kernel
abbrev WS_M_isBalanced (cI cL cZ : ClassId)  (h0 a_currency a_sort a_closing a_average a_held a_sum a_told a_left a_step a_outside a_item : Nat) (v_thrown : Int32) (v_companies : Int32) (v_accounts : Int32) (v_done : Int32) (v_items : Int32) (v_sum : (Nat → Int64)) : va_W := [(h0, .inr (3, [.int v_thrown, .int v_companies, .int v_accounts, .ref a_currency, .ref a_sort, .ref a_closing, .ref a_average, .ref a_held, .ref a_sum, .ref a_told, .int v_done, .ref a_left, .ref a_step, .ref a_outside, .int v_items, .ref a_item])), (a_sum, .inl (cL, 1872, .inr (.inl v_sum)))]
def wp_M_isBalanced  (p0 : Int32) (v_thrown : Int32) (v_companies : Int32) (v_sum : (Nat → Int64)) (post : Int32 → Int32 → Prop) : Prop := (wp_M_isCompany p0 v_companies (fun (r7 : Int32) (u7 : Unit) => ((¬ r7 = 0 → (∃ (I20 : Int64 → Int32 → Prop) (μ20 : Int64 → Int32 → Nat), I20 0 0 ∧ ∀ (l2_20 : Int64) (l4_20 : Int32), I20 l2_20 l4_20 → ((156 ≤ l4_20 → ((¬ l2_20 = 0 → post 0 0) ∧ (l2_20 = 0 → post 1 0))) ∧ (¬ 156 ≤ l4_20 → (vp_in ((156 * p0) + l4_20) 1872 ∧ (∀ x43 : Int64, x43 = (l2_20 + (v_sum (Int32.toNatClampNeg ((156 * p0) + l4_20)))) → I20 x43 (l4_20 + 1) ∧ μ20 x43 (l4_20 + 1) < μ20 l2_20 l4_20)))))) ∧ (r7 = 0 → post (-1) 0))))
abbrev ws_M_isBalanced : List Cond := .code y_M_isBalanced prog_5_method_18_code 5 (some .int) :: kxW
abbrev rm_M_isBalanced : Room := { frames := 1, cells := 0, slots := 0, locals := 21 }
abbrev QC_M_isBalanced (dC : Nat → ClassId) (dI : Nat → Nat → Nat) (cI cL cZ : ClassId) (A : Nat → Prop)  (h0 a_currency a_sort a_closing a_average a_held a_sum a_told a_left a_step a_outside a_item : Nat) (v_thrown : Int32) (v_companies : Int32) (v_accounts : Int32) (v_done : Int32) (v_items : Int32) (v_sum : (Nat → Int64)) (post : Int32 → Int32 → Prop) : Array Value → State → Outcome → State → Prop := va_Qi post (fun (u : Int32) t => kx_B (dC, dI) classes A (WS_M_isBalanced cI cL cZ h0 a_currency a_sort a_closing a_average a_held a_sum a_told a_left a_step a_outside a_item u v_companies v_accounts v_done v_items v_sum) t) A
set_option maxHeartbeats 4000000 in
set_option maxRecDepth 100000 in
theorem c_M_isBalanced (l : Launch) (dC : Nat → ClassId) (dI : Nat → Nat → Nat) (cI cL cZ : ClassId)  (h0 a_currency a_sort a_closing a_average a_held a_sum a_told a_left a_step a_outside a_item : Nat) (v_thrown : Int32) (v_companies : Int32) (v_accounts : Int32) (v_done : Int32) (v_items : Int32) (v_sum : (Nat → Int64)) (sz : Nat) (p0 : Int32) {post : Int32 → Int32 → Prop} (hw : wp_M_isBalanced p0 v_thrown v_companies v_sum post) : Met l y_M_isBalanced ws_M_isBalanced rm_M_isBalanced (kx_Pc (dC, dI) classes (kx_T cI cL cZ) (WS_M_isBalanced cI cL cZ h0 a_currency a_sort a_closing a_average a_held a_sum a_told a_left a_step a_outside a_item v_thrown v_companies v_accounts v_done v_items v_sum) sz [.ref h0, .int p0]) (QC_M_isBalanced dC dI cI cL cZ (va_A (WS_M_isBalanced cI cL cZ h0 a_currency a_sort a_closing a_average a_held a_sum a_told a_left a_step a_outside a_item v_thrown v_companies v_accounts v_done v_items v_sum) sz) h0 a_currency a_sort a_closing a_average a_held a_sum a_told a_left a_step a_outside a_item v_thrown v_companies v_accounts v_done v_items v_sum post) 0 0 (va_A (WS_M_isBalanced cI cL cZ h0 a_currency a_sort a_closing a_average a_held a_sum a_told a_left a_step a_outside a_item v_thrown v_companies v_accounts v_done v_items v_sum) sz) := by
  refine Met.ofW (cc := prog_5_method_18_code) (maxL := 5) (ret := (some .int)) (by decide) rfl ?_
  intro p e s m args below meth c s₁ B hml hv
  obtain ⟨rfl, hsz, hP, hK, hD0, hN⟩ := hv
  have hx := B.exec
  have hb := B.bytes
  have hr := B.returns
  have hts := atoms_spec (ws := ws_M_isBalanced) B.pre
  have hown : s.vm.findClass R_M = some m.cls := findClass_of_methodNamed B.named
  have hlocks := B.notSynchronized
  subst hsz
  have hD := hD0.self (sz := s.heap.size)
  generalize hAe : va_A (WS_M_isBalanced cI cL cZ h0 a_currency a_sort a_closing a_average a_held a_sum a_told a_left a_step a_outside a_item v_thrown v_companies v_accounts v_done v_items v_sum) s.heap.size = A at hD ⊢
  have hA : ∀ q : Nat, s.heap.size ≤ q → A q := fun q h => by rw [← hAe]; exact Or.inr h
  have hS : va_S A s.heap s.heap [] := va_S.rf
  have hP : va_P (dC, dI) classes (WS_M_isBalanced cI cL cZ h0 a_currency a_sort a_closing a_average a_held a_sum a_told a_left a_step a_outside a_item v_thrown v_companies v_accounts v_done v_items v_sum) s.heap := hP
  have hl := lv_entry ([.ref h0, .int p0]) (n := 5) (Nat.le_of_ble_eq_true rfl)
  rw [lg_entry_eq]
  generalize (lg_sl ([.ref h0, .int p0]) ++ List.replicate (5 - (lg_sl ([.ref h0, .int p0])).length) Slot.unset).toArray = ls at hl ⊢
  have hl : lv_has ls 5 [(0, .ref h0), (1, .int p0)] := hl
  unfold wp_M_isBalanced at hw
  refine (show ∀ (H : Heap) (locs : List Loc), va_P (dC, dI) classes (WS_M_isBalanced cI cL cZ h0 a_currency a_sort a_closing a_average a_held a_sum a_told a_left a_step a_outside a_item v_thrown v_companies v_accounts v_done v_items v_sum) H → va_S A s.heap H locs → W p l e (headSpec ws_M_isBalanced rm_M_isBalanced).room s m ([.ref h0, .int p0] : List Value).toArray below meth c H locs 0 0 (MQ below (QC_M_isBalanced dC dI cI cL cZ A h0 a_currency a_sort a_closing a_average a_held a_sum a_told a_left a_step a_outside a_item v_thrown v_companies v_accounts v_done v_items v_sum post) ([.ref h0, .int p0] : List Value).toArray s 0 0 A) (F0 m 0 ls []) from ?_) _ _ hP hS
  intro H locs hP hS
  refine lv_aload_n hx hb d_M_isBalanced_0 rfl (lv_at hl 0 rfl) ?_
  refine lv_iconst (v := 0) hx hb d_M_isBalanced_1 (by decide) ?_
  refine va_put (D := (dC, dI)) (ci := 3) (v := .int 0) (ty := .int) (C := R_M) (T := F_M) (N := 16) hx hb hts (kx_in in_M) t_M t_M_ok n_M hown hK hP hD hS 0 rfl rfl 0 (by decide) (hts _ (kx_w iw_475)) (fun _ h9 => h9) rfl (by decide +kernel) rfl rfl (Nat.le_of_ble_eq_true rfl) d_M_isBalanced_2 (fun H locs hP hD hS => ?_)
  have hP : va_P (dC, dI) classes (WS_M_isBalanced cI cL cZ h0 a_currency a_sort a_closing a_average a_held a_sum a_told a_left a_step a_outside a_item 0 v_companies v_accounts v_done v_items v_sum) H := hP
  have hD : va_D A (WS_M_isBalanced cI cL cZ h0 a_currency a_sort a_closing a_average a_held a_sum a_told a_left a_step a_outside a_item 0 v_companies v_accounts v_done v_items v_sum) := hD
  refine lv_aload_n hx hb d_M_isBalanced_5 rfl (lv_at hl 0 rfl) ?_
  refine lv_iload_n hx hb d_M_isBalanced_6 rfl (lv_at hl 1 rfl) ?_
  refine kx_calli (ws' := fun u7 => (WS_M_isBalanced cI cL cZ h0 a_currency a_sort a_closing a_average a_held a_sum a_told a_left a_step a_outside a_item 0 v_companies v_accounts v_done v_items v_sum)) (va_runV (As := [.int p0]) (rest := []) ⟨hx, hb, hml, hown, hts⟩ (c_M_isCompany l dC dI cI cL cZ h0 a_currency a_sort a_closing a_average a_held a_sum a_told a_left a_step a_outside a_item 0 v_companies v_accounts v_done v_items H.size p0 hw) ⟨(callB_of 1 hts (kx_good iw_547) rfl rfl rfl (hts _ (kx_w iw_4)) (hts _ (kx_w iw_544)) (by decide +kernel) ⟨Nat.le_of_ble_eq_true rfl, Nat.le_of_ble_eq_true rfl⟩), (hts _ (kx_w iw_546)), (hts _ (kx_w sl_M_isCompany))⟩ (kx_preV hN hK hP hD [0] (by decide) rfl 0 rfl rfl) rfl rfl hl.1 rfl (lv_room (Nat.le_of_ble_eq_true rfl)) d_M_isBalanced_7 ⟨Nat.le_of_ble_eq_true rfl, Nat.le_of_ble_eq_true rfl⟩) hP hD hS hA [0] [1] rfl rfl (by decide) (by decide) [1, 0] (by decide) (fun _ => rfl) (fun r7 u7 H locs hw hP hD hS => ?_)
  have hP : va_P (dC, dI) classes (WS_M_isBalanced cI cL cZ h0 a_currency a_sort a_closing a_average a_held a_sum a_told a_left a_step a_outside a_item 0 v_companies v_accounts v_done v_items v_sum) H := hP
  have hD : va_D A (WS_M_isBalanced cI cL cZ h0 a_currency a_sort a_closing a_average a_held a_sum a_told a_left a_step a_outside a_item 0 v_companies v_accounts v_done v_items v_sum) := hD
  refine lv_if_ne (tgt := 15) hx hb d_M_isBalanced_10 rfl (fun hc => ?_) (fun hc => ?_)
  ·
    have hw := hw.1 hc
    refine lv_lconst (v := 0) hx hb d_M_isBalanced_15 (by decide) ?_
    refine lv_lstore_n (lv' := [(2, .long 0), (0, .ref h0), (1, .int p0)]) hx hb d_M_isBalanced_16 rfl hl (by decide) rfl (fun ls hl => ?_)
    refine lv_iconst (v := 0) hx hb d_M_isBalanced_17 (by decide) ?_
    refine lv_istore (lv' := [(4, .int 0), (2, .long 0), (0, .ref h0), (1, .int p0)]) hx hb d_M_isBalanced_18 hl (by decide) rfl (fun ls hl => ?_)
    have hl := lv_sub hl [2, 3, 1, 0] rfl
    obtain ⟨I20, μ20, hi20, hs20⟩ := hw
    have L20 : ∀ (n : Nat) (l2_20 : Int64) (l4_20 : Int32) (H : Heap) (locs : List Loc) (ls : Array Slot), μ20 l2_20 l4_20 < n → I20 l2_20 l4_20 → lv_has ls 5 [(0, .ref h0), (1, .int p0), (2, .long l2_20), (4, .int l4_20)] → va_P (dC, dI) classes (WS_M_isBalanced cI cL cZ h0 a_currency a_sort a_closing a_average a_held a_sum a_told a_left a_step a_outside a_item 0 v_companies v_accounts v_done v_items v_sum) H → va_D A (WS_M_isBalanced cI cL cZ h0 a_currency a_sort a_closing a_average a_held a_sum a_told a_left a_step a_outside a_item 0 v_companies v_accounts v_done v_items v_sum) → va_S A s.heap H locs → W p l e (headSpec ws_M_isBalanced rm_M_isBalanced).room s m ([.ref h0, .int p0] : List Value).toArray below meth c H locs 0 0 (MQ below (QC_M_isBalanced dC dI cI cL cZ A h0 a_currency a_sort a_closing a_average a_held a_sum a_told a_left a_step a_outside a_item v_thrown v_companies v_accounts v_done v_items v_sum post) ([.ref h0, .int p0] : List Value).toArray s 0 0 A) (F0 m 20 ls []) := by
      intro n
      induction n with
      | zero => intro l2_20 l4_20 H locs ls hn; exact absurd hn (Nat.not_lt_zero _)
      | succ n ih20 =>
        intro l2_20 l4_20 H locs ls hn20 hI hl hP hD hS
        have hw := hs20 l2_20 l4_20 hI
        refine lv_iload hx hb d_M_isBalanced_20 (lv_at hl 3 rfl) ?_
        refine lv_sipush (v := 156) hx hb d_M_isBalanced_22 (by decide) ?_
        refine lv_icmp_ge (tgt := 50) hx hb d_M_isBalanced_25 rfl (fun hc => ?_) (fun hc => ?_)
        ·
          have hw := hw.1 hc
          refine lv_lload_n hx hb d_M_isBalanced_50 rfl (lv_at hl 2 rfl) ?_
          refine lv_lconst (v := 0) hx hb d_M_isBalanced_51 (by decide) ?_
          refine W.lcmp hx hb d_M_isBalanced_52 ?_
          refine lv_if_ne (tgt := 60) hx hb d_M_isBalanced_53 rfl (fun hc => ?_) (fun hc => ?_)
          ·
            have hc := (lc_ne _ _).mp hc
            have hw := hw.1 hc
            refine lv_iconst (v := 0) hx hb d_M_isBalanced_60 (by decide) ?_
            exact W.iret (v := 0) hx hb hr (fun t ht hW => ⟨⟨0, 0, rfl, hw, ⟨by rw [ht]; exact hP, hD⟩⟩, hS.F ht⟩) hS.2.2 d_M_isBalanced_61
          ·
            have hc := (lc_eq _ _).mp hc
            have hw := hw.2 hc
            refine lv_iconst (v := 1) hx hb d_M_isBalanced_56 (by decide) ?_
            refine lv_goto (tgt := 61) hx hb d_M_isBalanced_57 rfl ?_
            exact W.iret (v := 1) hx hb hr (fun t ht hW => ⟨⟨1, 0, rfl, hw, ⟨by rw [ht]; exact hP, hD⟩⟩, hS.F ht⟩) hS.2.2 d_M_isBalanced_61
        ·
          have hw := hw.2 hc
          refine lv_lload_n hx hb d_M_isBalanced_28 rfl (lv_at hl 2 rfl) ?_
          refine lv_aload_n hx hb d_M_isBalanced_29 rfl (lv_at hl 0 rfl) ?_
          refine va_get (D := (dC, dI)) (ci := 3) (v := .ref a_sum) (C := R_M) (T := F_M) (N := 16) hx hb hts (kx_in in_M) hown hK hP 0 rfl rfl 8 (by decide) (hts _ (kx_w iw_483)) (fun _ h9 => h9) rfl d_M_isBalanced_30 ?_
          refine lv_sipush (v := 156) hx hb d_M_isBalanced_33 (by decide) ?_
          refine lv_iload_n hx hb d_M_isBalanced_36 rfl (lv_at hl 1 rfl) ?_
          refine lv_imul hx hb d_M_isBalanced_37 ?_
          refine lv_iload hx hb d_M_isBalanced_38 (lv_at hl 3 rfl) ?_
          refine lv_iadd hx hb d_M_isBalanced_40 ?_
          obtain ⟨hi, hw⟩ := hw
          refine va_lald hx hb hK hP 1 1 rfl rfl hi d_M_isBalanced_41 ?_
          refine lv_ladd hx hb d_M_isBalanced_42 ?_
          refine lv_topl (fun x43 e43 => ?_)
          have hw := hw x43 e43
          refine lv_lstore_n (lv' := [(2, .long x43), (0, .ref h0), (1, .int p0), (4, .int l4_20)]) hx hb d_M_isBalanced_43 rfl hl (by decide) rfl (fun ls hl => ?_)
          refine lv_iinc (v := (l4_20 + 1)) (lv' := [(4, .int (l4_20 + 1)), (2, .long x43), (0, .ref h0), (1, .int p0)]) hx hb d_M_isBalanced_44 hl (k := 3) rfl rfl (by decide) rfl (fun ls hl => ?_)
          refine lv_goto (tgt := 20) hx hb d_M_isBalanced_47 rfl ?_
          have hl := lv_sub hl [2, 3, 1, 0] rfl
          exact ih20 x43 (l4_20 + 1) _ _ _ (Nat.lt_of_lt_of_le hw.2 (Nat.le_of_lt_succ hn20)) hw.1 hl hP hD hS
    exact L20 _ 0 0 _ _ _ (Nat.lt_succ_self _) hi20 hl hP hD hS
  ·
    have hw := hw.2 hc
    refine lv_iconst (v := (-1)) hx hb d_M_isBalanced_13 (by decide) ?_
    exact W.iret (v := (-1)) hx hb hr (fun t ht hW => ⟨⟨(-1), 0, rfl, hw, ⟨by rw [ht]; exact hP, hD⟩⟩, hS.F ht⟩) hS.2.2 d_M_isBalanced_14
/-! ConsolidationDeskModel.controlled(I)I -/
abbrev y_M_controlled : MethodName := ⟨"ConsolidationDeskModel", "controlled", "(I)I"⟩
theorem d_M_controlled_0 : decode prog_5_method_19_code 0 = .ok (.aload_n 0, 1) := by decide +kernel
theorem d_M_controlled_1 : decode prog_5_method_19_code 1 = .ok (.iconst 0, 1) := by decide +kernel
theorem d_M_controlled_2 : decode prog_5_method_19_code 2 = .ok (.putfield 49, 3) := by decide +kernel
theorem d_M_controlled_5 : decode prog_5_method_19_code 5 = .ok (.aload_n 0, 1) := by decide +kernel
theorem d_M_controlled_6 : decode prog_5_method_19_code 6 = .ok (.iload_n 1, 1) := by decide +kernel
theorem d_M_controlled_7 : decode prog_5_method_19_code 7 = .ok (.invokevirtual 59, 3) := by decide +kernel
theorem d_M_controlled_10 : decode prog_5_method_19_code 10 = .ok (.ifCond .ne 7, 3) := by decide +kernel
theorem d_M_controlled_13 : decode prog_5_method_19_code 13 = .ok (.iconst (-1), 1) := by decide +kernel
theorem d_M_controlled_14 : decode prog_5_method_19_code 14 = .ok (.goto 16, 3) := by decide +kernel
theorem d_M_controlled_17 : decode prog_5_method_19_code 17 = .ok (.aload_n 0, 1) := by decide +kernel
theorem d_M_controlled_18 : decode prog_5_method_19_code 18 = .ok (.iload_n 1, 1) := by decide +kernel
theorem d_M_controlled_19 : decode prog_5_method_19_code 19 = .ok (.invokevirtual 91, 3) := by decide +kernel
theorem d_M_controlled_22 : decode prog_5_method_19_code 22 = .ok (.ifCond .eq 7, 3) := by decide +kernel
theorem d_M_controlled_25 : decode prog_5_method_19_code 25 = .ok (.iconst 1, 1) := by decide +kernel
theorem d_M_controlled_26 : decode prog_5_method_19_code 26 = .ok (.goto 4, 3) := by decide +kernel
theorem d_M_controlled_29 : decode prog_5_method_19_code 29 = .ok (.iconst 0, 1) := by decide +kernel
theorem d_M_controlled_30 : decode prog_5_method_19_code 30 = .ok (.ireturn, 1) := by decide +kernel
abbrev WS_M_controlled (cI cL cZ : ClassId)  (h0 a_currency a_sort a_closing a_average a_held a_sum a_told a_left a_step a_outside a_item : Nat) (v_thrown : Int32) (v_companies : Int32) (v_accounts : Int32) (v_done : Int32) (v_items : Int32) (v_held : (Nat → Int32)) : va_W := [(h0, .inr (3, [.int v_thrown, .int v_companies, .int v_accounts, .ref a_currency, .ref a_sort, .ref a_closing, .ref a_average, .ref a_held, .ref a_sum, .ref a_told, .int v_done, .ref a_left, .ref a_step, .ref a_outside, .int v_items, .ref a_item])), (a_held, .inl (cI, 144, .inl v_held))]
def wp_M_controlled  (p0 : Int32) (v_thrown : Int32) (v_companies : Int32) (v_held : (Nat → Int32)) (post : Int32 → Int32 → Prop) : Prop := (wp_M_isCompany p0 v_companies (fun (r7 : Int32) (u7 : Unit) => ((¬ r7 = 0 → (wp_M_isControlled p0 v_held (fun (r19 : Int32) (u19 : Unit) => ((r19 = 0 → post 0 0) ∧ (¬ r19 = 0 → post 1 0))))) ∧ (r7 = 0 → post (-1) 0))))
abbrev ws_M_controlled : List Cond := .code y_M_controlled prog_5_method_19_code 2 (some .int) :: kxW
abbrev rm_M_controlled : Room := { frames := 1, cells := 0, slots := 0, locals := 26 }
abbrev QC_M_controlled (dC : Nat → ClassId) (dI : Nat → Nat → Nat) (cI cL cZ : ClassId) (A : Nat → Prop)  (h0 a_currency a_sort a_closing a_average a_held a_sum a_told a_left a_step a_outside a_item : Nat) (v_thrown : Int32) (v_companies : Int32) (v_accounts : Int32) (v_done : Int32) (v_items : Int32) (v_held : (Nat → Int32)) (post : Int32 → Int32 → Prop) : Array Value → State → Outcome → State → Prop := va_Qi post (fun (u : Int32) t => kx_B (dC, dI) classes A (WS_M_controlled cI cL cZ h0 a_currency a_sort a_closing a_average a_held a_sum a_told a_left a_step a_outside a_item u v_companies v_accounts v_done v_items v_held) t) A
set_option maxHeartbeats 4000000 in
set_option maxRecDepth 100000 in
theorem c_M_controlled (l : Launch) (dC : Nat → ClassId) (dI : Nat → Nat → Nat) (cI cL cZ : ClassId)  (h0 a_currency a_sort a_closing a_average a_held a_sum a_told a_left a_step a_outside a_item : Nat) (v_thrown : Int32) (v_companies : Int32) (v_accounts : Int32) (v_done : Int32) (v_items : Int32) (v_held : (Nat → Int32)) (sz : Nat) (p0 : Int32) {post : Int32 → Int32 → Prop} (hw : wp_M_controlled p0 v_thrown v_companies v_held post) : Met l y_M_controlled ws_M_controlled rm_M_controlled (kx_Pc (dC, dI) classes (kx_T cI cL cZ) (WS_M_controlled cI cL cZ h0 a_currency a_sort a_closing a_average a_held a_sum a_told a_left a_step a_outside a_item v_thrown v_companies v_accounts v_done v_items v_held) sz [.ref h0, .int p0]) (QC_M_controlled dC dI cI cL cZ (va_A (WS_M_controlled cI cL cZ h0 a_currency a_sort a_closing a_average a_held a_sum a_told a_left a_step a_outside a_item v_thrown v_companies v_accounts v_done v_items v_held) sz) h0 a_currency a_sort a_closing a_average a_held a_sum a_told a_left a_step a_outside a_item v_thrown v_companies v_accounts v_done v_items v_held post) 0 0 (va_A (WS_M_controlled cI cL cZ h0 a_currency a_sort a_closing a_average a_held a_sum a_told a_left a_step a_outside a_item v_thrown v_companies v_accounts v_done v_items v_held) sz) := by
  refine Met.ofW (cc := prog_5_method_19_code) (maxL := 2) (ret := (some .int)) (by decide) rfl ?_
  intro p e s m args below meth c s₁ B hml hv
  obtain ⟨rfl, hsz, hP, hK, hD0, hN⟩ := hv
  have hx := B.exec
  have hb := B.bytes
  have hr := B.returns
  have hts := atoms_spec (ws := ws_M_controlled) B.pre
  have hown : s.vm.findClass R_M = some m.cls := findClass_of_methodNamed B.named
  have hlocks := B.notSynchronized
  subst hsz
  have hD := hD0.self (sz := s.heap.size)
  generalize hAe : va_A (WS_M_controlled cI cL cZ h0 a_currency a_sort a_closing a_average a_held a_sum a_told a_left a_step a_outside a_item v_thrown v_companies v_accounts v_done v_items v_held) s.heap.size = A at hD ⊢
  have hA : ∀ q : Nat, s.heap.size ≤ q → A q := fun q h => by rw [← hAe]; exact Or.inr h
  have hS : va_S A s.heap s.heap [] := va_S.rf
  have hP : va_P (dC, dI) classes (WS_M_controlled cI cL cZ h0 a_currency a_sort a_closing a_average a_held a_sum a_told a_left a_step a_outside a_item v_thrown v_companies v_accounts v_done v_items v_held) s.heap := hP
  have hl := lv_entry ([.ref h0, .int p0]) (n := 2) (Nat.le_of_ble_eq_true rfl)
  rw [lg_entry_eq]
  generalize (lg_sl ([.ref h0, .int p0]) ++ List.replicate (2 - (lg_sl ([.ref h0, .int p0])).length) Slot.unset).toArray = ls at hl ⊢
  have hl : lv_has ls 2 [(0, .ref h0), (1, .int p0)] := hl
  unfold wp_M_controlled at hw
  refine (show ∀ (H : Heap) (locs : List Loc), va_P (dC, dI) classes (WS_M_controlled cI cL cZ h0 a_currency a_sort a_closing a_average a_held a_sum a_told a_left a_step a_outside a_item v_thrown v_companies v_accounts v_done v_items v_held) H → va_S A s.heap H locs → W p l e (headSpec ws_M_controlled rm_M_controlled).room s m ([.ref h0, .int p0] : List Value).toArray below meth c H locs 0 0 (MQ below (QC_M_controlled dC dI cI cL cZ A h0 a_currency a_sort a_closing a_average a_held a_sum a_told a_left a_step a_outside a_item v_thrown v_companies v_accounts v_done v_items v_held post) ([.ref h0, .int p0] : List Value).toArray s 0 0 A) (F0 m 0 ls []) from ?_) _ _ hP hS
  intro H locs hP hS
  refine lv_aload_n hx hb d_M_controlled_0 rfl (lv_at hl 0 rfl) ?_
  refine lv_iconst (v := 0) hx hb d_M_controlled_1 (by decide) ?_
  refine va_put (D := (dC, dI)) (ci := 3) (v := .int 0) (ty := .int) (C := R_M) (T := F_M) (N := 16) hx hb hts (kx_in in_M) t_M t_M_ok n_M hown hK hP hD hS 0 rfl rfl 0 (by decide) (hts _ (kx_w iw_475)) (fun _ h9 => h9) rfl (by decide +kernel) rfl rfl (Nat.le_of_ble_eq_true rfl) d_M_controlled_2 (fun H locs hP hD hS => ?_)
  have hP : va_P (dC, dI) classes (WS_M_controlled cI cL cZ h0 a_currency a_sort a_closing a_average a_held a_sum a_told a_left a_step a_outside a_item 0 v_companies v_accounts v_done v_items v_held) H := hP
  have hD : va_D A (WS_M_controlled cI cL cZ h0 a_currency a_sort a_closing a_average a_held a_sum a_told a_left a_step a_outside a_item 0 v_companies v_accounts v_done v_items v_held) := hD
  refine lv_aload_n hx hb d_M_controlled_5 rfl (lv_at hl 0 rfl) ?_
  refine lv_iload_n hx hb d_M_controlled_6 rfl (lv_at hl 1 rfl) ?_
  refine kx_calli (ws' := fun u7 => (WS_M_controlled cI cL cZ h0 a_currency a_sort a_closing a_average a_held a_sum a_told a_left a_step a_outside a_item 0 v_companies v_accounts v_done v_items v_held)) (va_runV (As := [.int p0]) (rest := []) ⟨hx, hb, hml, hown, hts⟩ (c_M_isCompany l dC dI cI cL cZ h0 a_currency a_sort a_closing a_average a_held a_sum a_told a_left a_step a_outside a_item 0 v_companies v_accounts v_done v_items H.size p0 hw) ⟨(callB_of 1 hts (kx_good iw_547) rfl rfl rfl (hts _ (kx_w iw_4)) (hts _ (kx_w iw_544)) (by decide +kernel) ⟨Nat.le_of_ble_eq_true rfl, Nat.le_of_ble_eq_true rfl⟩), (hts _ (kx_w iw_546)), (hts _ (kx_w sl_M_isCompany))⟩ (kx_preV hN hK hP hD [0] (by decide) rfl 0 rfl rfl) rfl rfl hl.1 rfl (lv_room (Nat.le_of_ble_eq_true rfl)) d_M_controlled_7 ⟨Nat.le_of_ble_eq_true rfl, Nat.le_of_ble_eq_true rfl⟩) hP hD hS hA [0] [1] rfl rfl (by decide) (by decide) [1, 0] (by decide) (fun _ => rfl) (fun r7 u7 H locs hw hP hD hS => ?_)
  have hP : va_P (dC, dI) classes (WS_M_controlled cI cL cZ h0 a_currency a_sort a_closing a_average a_held a_sum a_told a_left a_step a_outside a_item 0 v_companies v_accounts v_done v_items v_held) H := hP
  have hD : va_D A (WS_M_controlled cI cL cZ h0 a_currency a_sort a_closing a_average a_held a_sum a_told a_left a_step a_outside a_item 0 v_companies v_accounts v_done v_items v_held) := hD
  refine lv_if_ne (tgt := 17) hx hb d_M_controlled_10 rfl (fun hc => ?_) (fun hc => ?_)
  ·
    have hw := hw.1 hc
    refine lv_aload_n hx hb d_M_controlled_17 rfl (lv_at hl 0 rfl) ?_
    refine lv_iload_n hx hb d_M_controlled_18 rfl (lv_at hl 1 rfl) ?_
    refine kx_calli (ws' := fun u19 => (WS_M_controlled cI cL cZ h0 a_currency a_sort a_closing a_average a_held a_sum a_told a_left a_step a_outside a_item 0 v_companies v_accounts v_done v_items v_held)) (va_runV (As := [.int p0]) (rest := []) ⟨hx, hb, hml, hown, hts⟩ (c_M_isControlled l dC dI cI cL cZ h0 a_currency a_sort a_closing a_average a_held a_sum a_told a_left a_step a_outside a_item 0 v_companies v_accounts v_done v_items v_held H.size p0 hw) ⟨(callB_of 1 hts (kx_good iw_598) rfl rfl rfl (hts _ (kx_w iw_4)) (hts _ (kx_w iw_595)) (by decide +kernel) ⟨Nat.le_of_ble_eq_true rfl, Nat.le_of_ble_eq_true rfl⟩), (hts _ (kx_w iw_597)), (hts _ (kx_w sl_M_isControlled))⟩ (kx_preV hN hK hP hD [0, 1] (by decide) rfl 0 rfl rfl) rfl rfl hl.1 rfl (lv_room (Nat.le_of_ble_eq_true rfl)) d_M_controlled_19 ⟨Nat.le_of_ble_eq_true rfl, Nat.le_of_ble_eq_true rfl⟩) hP hD hS hA [0, 1] [] rfl rfl (by decide) (by decide) [0, 1] (by decide) (fun _ => rfl) (fun r19 u19 H locs hw hP hD hS => ?_)
    have hP : va_P (dC, dI) classes (WS_M_controlled cI cL cZ h0 a_currency a_sort a_closing a_average a_held a_sum a_told a_left a_step a_outside a_item 0 v_companies v_accounts v_done v_items v_held) H := hP
    have hD : va_D A (WS_M_controlled cI cL cZ h0 a_currency a_sort a_closing a_average a_held a_sum a_told a_left a_step a_outside a_item 0 v_companies v_accounts v_done v_items v_held) := hD
    refine lv_if_eq (tgt := 29) hx hb d_M_controlled_22 rfl (fun hc => ?_) (fun hc => ?_)
    ·
      have hw := hw.1 hc
      refine lv_iconst (v := 0) hx hb d_M_controlled_29 (by decide) ?_
      exact W.iret (v := 0) hx hb hr (fun t ht hW => ⟨⟨0, 0, rfl, hw, ⟨by rw [ht]; exact hP, hD⟩⟩, hS.F ht⟩) hS.2.2 d_M_controlled_30
    ·
      have hw := hw.2 hc
      refine lv_iconst (v := 1) hx hb d_M_controlled_25 (by decide) ?_
      refine lv_goto (tgt := 30) hx hb d_M_controlled_26 rfl ?_
      exact W.iret (v := 1) hx hb hr (fun t ht hW => ⟨⟨1, 0, rfl, hw, ⟨by rw [ht]; exact hP, hD⟩⟩, hS.F ht⟩) hS.2.2 d_M_controlled_30
  ·
    have hw := hw.2 hc
    refine lv_iconst (v := (-1)) hx hb d_M_controlled_13 (by decide) ?_
    refine lv_goto (tgt := 30) hx hb d_M_controlled_14 rfl ?_
    exact W.iret (v := (-1)) hx hb hr (fun t ht hW => ⟨⟨(-1), 0, rfl, hw, ⟨by rw [ht]; exact hP, hD⟩⟩, hS.F ht⟩) hS.2.2 d_M_controlled_30
/-! ConsolidationDeskModel.weight(II)J -/
abbrev y_M_weight : MethodName := ⟨"ConsolidationDeskModel", "weight", "(II)J"⟩
theorem d_M_weight_0 : decode prog_5_method_20_code 0 = .ok (.lconst 0, 1) := by decide +kernel
theorem d_M_weight_1 : decode prog_5_method_20_code 1 = .ok (.lstore_n 3, 1) := by decide +kernel
theorem d_M_weight_2 : decode prog_5_method_20_code 2 = .ok (.iload_n 1, 1) := by decide +kernel
theorem d_M_weight_3 : decode prog_5_method_20_code 3 = .ok (.iconst 1, 1) := by decide +kernel
theorem d_M_weight_4 : decode prog_5_method_20_code 4 = .ok (.if_icmp .ne 11, 3) := by decide +kernel
theorem d_M_weight_7 : decode prog_5_method_20_code 7 = .ok (.aload_n 0, 1) := by decide +kernel
theorem d_M_weight_8 : decode prog_5_method_20_code 8 = .ok (.getfield 22, 3) := by decide +kernel
theorem d_M_weight_11 : decode prog_5_method_20_code 11 = .ok (.iload_n 2, 1) := by decide +kernel
theorem d_M_weight_12 : decode prog_5_method_20_code 12 = .ok (.iaload, 1) := by decide +kernel
theorem d_M_weight_13 : decode prog_5_method_20_code 13 = .ok (.i2l, 1) := by decide +kernel
theorem d_M_weight_14 : decode prog_5_method_20_code 14 = .ok (.lreturn, 1) := by decide +kernel
theorem d_M_weight_15 : decode prog_5_method_20_code 15 = .ok (.iconst 1, 1) := by decide +kernel
theorem d_M_weight_16 : decode prog_5_method_20_code 16 = .ok (.istore 5, 2) := by decide +kernel
theorem d_M_weight_18 : decode prog_5_method_20_code 18 = .ok (.iload 5, 2) := by decide +kernel
theorem d_M_weight_20 : decode prog_5_method_20_code 20 = .ok (.bipush 12, 2) := by decide +kernel
theorem d_M_weight_22 : decode prog_5_method_20_code 22 = .ok (.if_icmp .ge 152, 3) := by decide +kernel
theorem d_M_weight_25 : decode prog_5_method_20_code 25 = .ok (.lconst 0, 1) := by decide +kernel
theorem d_M_weight_26 : decode prog_5_method_20_code 26 = .ok (.lstore 6, 2) := by decide +kernel
theorem d_M_weight_28 : decode prog_5_method_20_code 28 = .ok (.iload_n 1, 1) := by decide +kernel
theorem d_M_weight_29 : decode prog_5_method_20_code 29 = .ok (.iconst 2, 1) := by decide +kernel
theorem d_M_weight_30 : decode prog_5_method_20_code 30 = .ok (.if_icmp .ne 16, 3) := by decide +kernel
theorem d_M_weight_33 : decode prog_5_method_20_code 33 = .ok (.aload_n 0, 1) := by decide +kernel
theorem d_M_weight_34 : decode prog_5_method_20_code 34 = .ok (.getfield 22, 3) := by decide +kernel
theorem d_M_weight_37 : decode prog_5_method_20_code 37 = .ok (.iload 5, 2) := by decide +kernel
theorem d_M_weight_39 : decode prog_5_method_20_code 39 = .ok (.iaload, 1) := by decide +kernel
theorem d_M_weight_40 : decode prog_5_method_20_code 40 = .ok (.i2l, 1) := by decide +kernel
theorem d_M_weight_41 : decode prog_5_method_20_code 41 = .ok (.lstore 6, 2) := by decide +kernel
theorem d_M_weight_43 : decode prog_5_method_20_code 43 = .ok (.goto 106, 3) := by decide +kernel
theorem d_M_weight_46 : decode prog_5_method_20_code 46 = .ok (.iconst 1, 1) := by decide +kernel
theorem d_M_weight_47 : decode prog_5_method_20_code 47 = .ok (.istore 8, 2) := by decide +kernel
theorem d_M_weight_49 : decode prog_5_method_20_code 49 = .ok (.iload 8, 2) := by decide +kernel
theorem d_M_weight_51 : decode prog_5_method_20_code 51 = .ok (.bipush 12, 2) := by decide +kernel
theorem d_M_weight_53 : decode prog_5_method_20_code 53 = .ok (.if_icmp .ge 96, 3) := by decide +kernel
theorem d_M_weight_56 : decode prog_5_method_20_code 56 = .ok (.lconst 0, 1) := by decide +kernel
theorem d_M_weight_57 : decode prog_5_method_20_code 57 = .ok (.lstore 9, 2) := by decide +kernel
theorem d_M_weight_59 : decode prog_5_method_20_code 59 = .ok (.iload_n 1, 1) := by decide +kernel
theorem d_M_weight_60 : decode prog_5_method_20_code 60 = .ok (.iconst 3, 1) := by decide +kernel
theorem d_M_weight_61 : decode prog_5_method_20_code 61 = .ok (.if_icmp .ne 16, 3) := by decide +kernel
theorem d_M_weight_64 : decode prog_5_method_20_code 64 = .ok (.aload_n 0, 1) := by decide +kernel
theorem d_M_weight_65 : decode prog_5_method_20_code 65 = .ok (.getfield 22, 3) := by decide +kernel
theorem d_M_weight_68 : decode prog_5_method_20_code 68 = .ok (.iload 8, 2) := by decide +kernel
theorem d_M_weight_70 : decode prog_5_method_20_code 70 = .ok (.iaload, 1) := by decide +kernel
theorem d_M_weight_71 : decode prog_5_method_20_code 71 = .ok (.i2l, 1) := by decide +kernel
theorem d_M_weight_72 : decode prog_5_method_20_code 72 = .ok (.lstore 9, 2) := by decide +kernel
theorem d_M_weight_74 : decode prog_5_method_20_code 74 = .ok (.goto 47, 3) := by decide +kernel
theorem d_M_weight_77 : decode prog_5_method_20_code 77 = .ok (.iconst 1, 1) := by decide +kernel
theorem d_M_weight_78 : decode prog_5_method_20_code 78 = .ok (.istore 11, 2) := by decide +kernel
theorem d_M_weight_80 : decode prog_5_method_20_code 80 = .ok (.iload 11, 2) := by decide +kernel
theorem d_M_weight_82 : decode prog_5_method_20_code 82 = .ok (.bipush 12, 2) := by decide +kernel
theorem d_M_weight_84 : decode prog_5_method_20_code 84 = .ok (.if_icmp .ge 37, 3) := by decide +kernel
theorem d_M_weight_87 : decode prog_5_method_20_code 87 = .ok (.lload 9, 2) := by decide +kernel
theorem d_M_weight_89 : decode prog_5_method_20_code 89 = .ok (.aload_n 0, 1) := by decide +kernel
theorem d_M_weight_90 : decode prog_5_method_20_code 90 = .ok (.getfield 22, 3) := by decide +kernel
theorem d_M_weight_93 : decode prog_5_method_20_code 93 = .ok (.iload 11, 2) := by decide +kernel
theorem d_M_weight_95 : decode prog_5_method_20_code 95 = .ok (.iaload, 1) := by decide +kernel
theorem d_M_weight_96 : decode prog_5_method_20_code 96 = .ok (.i2l, 1) := by decide +kernel
theorem d_M_weight_97 : decode prog_5_method_20_code 97 = .ok (.aload_n 0, 1) := by decide +kernel
theorem d_M_weight_98 : decode prog_5_method_20_code 98 = .ok (.getfield 22, 3) := by decide +kernel
theorem d_M_weight_101 : decode prog_5_method_20_code 101 = .ok (.bipush 12, 2) := by decide +kernel
theorem d_M_weight_103 : decode prog_5_method_20_code 103 = .ok (.iload 11, 2) := by decide +kernel
theorem d_M_weight_105 : decode prog_5_method_20_code 105 = .ok (.imul, 1) := by decide +kernel
theorem d_M_weight_106 : decode prog_5_method_20_code 106 = .ok (.iload 8, 2) := by decide +kernel
theorem d_M_weight_108 : decode prog_5_method_20_code 108 = .ok (.iadd, 1) := by decide +kernel
theorem d_M_weight_109 : decode prog_5_method_20_code 109 = .ok (.iaload, 1) := by decide +kernel
theorem d_M_weight_110 : decode prog_5_method_20_code 110 = .ok (.i2l, 1) := by decide +kernel
theorem d_M_weight_111 : decode prog_5_method_20_code 111 = .ok (.lmul, 1) := by decide +kernel
theorem d_M_weight_112 : decode prog_5_method_20_code 112 = .ok (.ladd, 1) := by decide +kernel
theorem d_M_weight_113 : decode prog_5_method_20_code 113 = .ok (.lstore 9, 2) := by decide +kernel
theorem d_M_weight_115 : decode prog_5_method_20_code 115 = .ok (.iinc 11 1, 3) := by decide +kernel
theorem d_M_weight_118 : decode prog_5_method_20_code 118 = .ok (.goto (-38), 3) := by decide +kernel
theorem d_M_weight_121 : decode prog_5_method_20_code 121 = .ok (.lload 6, 2) := by decide +kernel
theorem d_M_weight_123 : decode prog_5_method_20_code 123 = .ok (.lload 9, 2) := by decide +kernel
theorem d_M_weight_125 : decode prog_5_method_20_code 125 = .ok (.aload_n 0, 1) := by decide +kernel
theorem d_M_weight_126 : decode prog_5_method_20_code 126 = .ok (.getfield 22, 3) := by decide +kernel
theorem d_M_weight_129 : decode prog_5_method_20_code 129 = .ok (.bipush 12, 2) := by decide +kernel
theorem d_M_weight_131 : decode prog_5_method_20_code 131 = .ok (.iload 8, 2) := by decide +kernel
theorem d_M_weight_133 : decode prog_5_method_20_code 133 = .ok (.imul, 1) := by decide +kernel
theorem d_M_weight_134 : decode prog_5_method_20_code 134 = .ok (.iload 5, 2) := by decide +kernel
theorem d_M_weight_136 : decode prog_5_method_20_code 136 = .ok (.iadd, 1) := by decide +kernel
theorem d_M_weight_137 : decode prog_5_method_20_code 137 = .ok (.iaload, 1) := by decide +kernel
theorem d_M_weight_138 : decode prog_5_method_20_code 138 = .ok (.i2l, 1) := by decide +kernel
theorem d_M_weight_139 : decode prog_5_method_20_code 139 = .ok (.lmul, 1) := by decide +kernel
theorem d_M_weight_140 : decode prog_5_method_20_code 140 = .ok (.ladd, 1) := by decide +kernel
theorem d_M_weight_141 : decode prog_5_method_20_code 141 = .ok (.lstore 6, 2) := by decide +kernel
theorem d_M_weight_143 : decode prog_5_method_20_code 143 = .ok (.iinc 8 1, 3) := by decide +kernel
theorem d_M_weight_146 : decode prog_5_method_20_code 146 = .ok (.goto (-97), 3) := by decide +kernel
theorem d_M_weight_149 : decode prog_5_method_20_code 149 = .ok (.lload_n 3, 1) := by decide +kernel
theorem d_M_weight_150 : decode prog_5_method_20_code 150 = .ok (.lload 6, 2) := by decide +kernel
theorem d_M_weight_152 : decode prog_5_method_20_code 152 = .ok (.aload_n 0, 1) := by decide +kernel
theorem d_M_weight_153 : decode prog_5_method_20_code 153 = .ok (.getfield 22, 3) := by decide +kernel
theorem d_M_weight_156 : decode prog_5_method_20_code 156 = .ok (.bipush 12, 2) := by decide +kernel
theorem d_M_weight_158 : decode prog_5_method_20_code 158 = .ok (.iload 5, 2) := by decide +kernel
theorem d_M_weight_160 : decode prog_5_method_20_code 160 = .ok (.imul, 1) := by decide +kernel
theorem d_M_weight_161 : decode prog_5_method_20_code 161 = .ok (.iload_n 2, 1) := by decide +kernel
theorem d_M_weight_162 : decode prog_5_method_20_code 162 = .ok (.iadd, 1) := by decide +kernel
theorem d_M_weight_163 : decode prog_5_method_20_code 163 = .ok (.iaload, 1) := by decide +kernel
theorem d_M_weight_164 : decode prog_5_method_20_code 164 = .ok (.i2l, 1) := by decide +kernel
theorem d_M_weight_165 : decode prog_5_method_20_code 165 = .ok (.lmul, 1) := by decide +kernel
theorem d_M_weight_166 : decode prog_5_method_20_code 166 = .ok (.ladd, 1) := by decide +kernel
theorem d_M_weight_167 : decode prog_5_method_20_code 167 = .ok (.lstore_n 3, 1) := by decide +kernel
theorem d_M_weight_168 : decode prog_5_method_20_code 168 = .ok (.iinc 5 1, 3) := by decide +kernel
theorem d_M_weight_171 : decode prog_5_method_20_code 171 = .ok (.goto (-153), 3) := by decide +kernel
theorem d_M_weight_174 : decode prog_5_method_20_code 174 = .ok (.lload_n 3, 1) := by decide +kernel
theorem d_M_weight_175 : decode prog_5_method_20_code 175 = .ok (.lreturn, 1) := by decide +kernel
abbrev WS_M_weight (cI cL cZ : ClassId)  (h0 a_currency a_sort a_closing a_average a_held a_sum a_told a_left a_step a_outside a_item : Nat) (v_thrown : Int32) (v_companies : Int32) (v_accounts : Int32) (v_done : Int32) (v_items : Int32) (v_held : (Nat → Int32)) : va_W := [(h0, .inr (3, [.int v_thrown, .int v_companies, .int v_accounts, .ref a_currency, .ref a_sort, .ref a_closing, .ref a_average, .ref a_held, .ref a_sum, .ref a_told, .int v_done, .ref a_left, .ref a_step, .ref a_outside, .int v_items, .ref a_item])), (a_held, .inl (cI, 144, .inl v_held))]
def wp_M_weight  (p0 : Int32) (p1 : Int32) (v_held : (Nat → Int32)) (post : Int64 → Unit → Prop) : Prop := ((¬ p0 = 1 → (∃ (I18 : Int64 → Int32 → Prop) (μ18 : Int64 → Int32 → Nat), I18 0 1 ∧ ∀ (l3_18 : Int64) (l5_18 : Int32), I18 l3_18 l5_18 → ((12 ≤ l5_18 → post l3_18 ()) ∧ (¬ 12 ≤ l5_18 → ((¬ p0 = 2 → (∃ (I49 : Int64 → Int32 → Prop) (μ49 : Int64 → Int32 → Nat), I49 0 1 ∧ ∀ (l6_49 : Int64) (l8_49 : Int32), I49 l6_49 l8_49 → ((12 ≤ l8_49 → (vp_in ((12 * l5_18) + p1) 144 ∧ (∀ x167 : Int64, x167 = (l3_18 + (l6_49 * (Int32.toInt64 (v_held (Int32.toNatClampNeg ((12 * l5_18) + p1)))))) → I18 x167 (l5_18 + 1) ∧ μ18 x167 (l5_18 + 1) < μ18 l3_18 l5_18))) ∧ (¬ 12 ≤ l8_49 → ((¬ p0 = 3 → (∃ (I80 : Int64 → Int32 → Prop) (μ80 : Int64 → Int32 → Nat), I80 0 1 ∧ ∀ (l9_80 : Int64) (l11_80 : Int32), I80 l9_80 l11_80 → ((12 ≤ l11_80 → (vp_in ((12 * l8_49) + l5_18) 144 ∧ (∀ x141 : Int64, x141 = (l6_49 + (l9_80 * (Int32.toInt64 (v_held (Int32.toNatClampNeg ((12 * l8_49) + l5_18)))))) → I49 x141 (l8_49 + 1) ∧ μ49 x141 (l8_49 + 1) < μ49 l6_49 l8_49))) ∧ (¬ 12 ≤ l11_80 → (vp_in l11_80 144 ∧ (vp_in ((12 * l11_80) + l8_49) 144 ∧ (∀ x113 : Int64, x113 = (l9_80 + ((Int32.toInt64 (v_held l11_80.toNatClampNeg)) * (Int32.toInt64 (v_held (Int32.toNatClampNeg ((12 * l11_80) + l8_49)))))) → I80 x113 (l11_80 + 1) ∧ μ80 x113 (l11_80 + 1) < μ80 l9_80 l11_80))))))) ∧ (p0 = 3 → (vp_in l8_49 144 ∧ (∀ x72 : Int64, x72 = (Int32.toInt64 (v_held l8_49.toNatClampNeg)) → (vp_in ((12 * l8_49) + l5_18) 144 ∧ (∀ x141 : Int64, x141 = (l6_49 + (x72 * (Int32.toInt64 (v_held (Int32.toNatClampNeg ((12 * l8_49) + l5_18)))))) → I49 x141 (l8_49 + 1) ∧ μ49 x141 (l8_49 + 1) < μ49 l6_49 l8_49)))))))))) ∧ (p0 = 2 → (vp_in l5_18 144 ∧ (∀ x41 : Int64, x41 = (Int32.toInt64 (v_held l5_18.toNatClampNeg)) → (vp_in ((12 * l5_18) + p1) 144 ∧ (∀ x167 : Int64, x167 = (l3_18 + (x41 * (Int32.toInt64 (v_held (Int32.toNatClampNeg ((12 * l5_18) + p1)))))) → I18 x167 (l5_18 + 1) ∧ μ18 x167 (l5_18 + 1) < μ18 l3_18 l5_18)))))))))) ∧ (p0 = 1 → (vp_in p1 144 ∧ post (Int32.toInt64 (v_held p1.toNatClampNeg)) ())))
abbrev ws_M_weight : List Cond := .code y_M_weight prog_5_method_20_code 12 (some .long) :: kxW
abbrev rm_M_weight : Room := { frames := 0, cells := 0, slots := 0, locals := 0 }
abbrev QC_M_weight (dC : Nat → ClassId) (dI : Nat → Nat → Nat) (cI cL cZ : ClassId) (A : Nat → Prop)  (h0 a_currency a_sort a_closing a_average a_held a_sum a_told a_left a_step a_outside a_item : Nat) (v_thrown : Int32) (v_companies : Int32) (v_accounts : Int32) (v_done : Int32) (v_items : Int32) (v_held : (Nat → Int32)) (post : Int64 → Unit → Prop) : Array Value → State → Outcome → State → Prop := va_Ql post (fun (u : Unit) t => kx_B (dC, dI) classes A (WS_M_weight cI cL cZ h0 a_currency a_sort a_closing a_average a_held a_sum a_told a_left a_step a_outside a_item v_thrown v_companies v_accounts v_done v_items v_held) t) A
set_option maxHeartbeats 4000000 in
set_option maxRecDepth 100000 in
theorem c_M_weight (l : Launch) (dC : Nat → ClassId) (dI : Nat → Nat → Nat) (cI cL cZ : ClassId)  (h0 a_currency a_sort a_closing a_average a_held a_sum a_told a_left a_step a_outside a_item : Nat) (v_thrown : Int32) (v_companies : Int32) (v_accounts : Int32) (v_done : Int32) (v_items : Int32) (v_held : (Nat → Int32)) (sz : Nat) (p0 : Int32) (p1 : Int32) {post : Int64 → Unit → Prop} (hw : wp_M_weight p0 p1 v_held post) : Met l y_M_weight ws_M_weight rm_M_weight (kx_Pc (dC, dI) classes (kx_T cI cL cZ) (WS_M_weight cI cL cZ h0 a_currency a_sort a_closing a_average a_held a_sum a_told a_left a_step a_outside a_item v_thrown v_companies v_accounts v_done v_items v_held) sz [.ref h0, .int p0, .int p1]) (QC_M_weight dC dI cI cL cZ (va_A (WS_M_weight cI cL cZ h0 a_currency a_sort a_closing a_average a_held a_sum a_told a_left a_step a_outside a_item v_thrown v_companies v_accounts v_done v_items v_held) sz) h0 a_currency a_sort a_closing a_average a_held a_sum a_told a_left a_step a_outside a_item v_thrown v_companies v_accounts v_done v_items v_held post) 0 0 (va_A (WS_M_weight cI cL cZ h0 a_currency a_sort a_closing a_average a_held a_sum a_told a_left a_step a_outside a_item v_thrown v_companies v_accounts v_done v_items v_held) sz) := by
  refine Met.ofW (cc := prog_5_method_20_code) (maxL := 12) (ret := (some .long)) (by decide) rfl ?_
  intro p e s m args below meth c s₁ B hml hv
  obtain ⟨rfl, hsz, hP, hK, hD0, hN⟩ := hv
  have hx := B.exec
  have hb := B.bytes
  have hr := B.returns
  have hts := atoms_spec (ws := ws_M_weight) B.pre
  have hown : s.vm.findClass R_M = some m.cls := findClass_of_methodNamed B.named
  have hlocks := B.notSynchronized
  subst hsz
  have hD := hD0.self (sz := s.heap.size)
  generalize hAe : va_A (WS_M_weight cI cL cZ h0 a_currency a_sort a_closing a_average a_held a_sum a_told a_left a_step a_outside a_item v_thrown v_companies v_accounts v_done v_items v_held) s.heap.size = A at hD ⊢
  have hA : ∀ q : Nat, s.heap.size ≤ q → A q := fun q h => by rw [← hAe]; exact Or.inr h
  have hS : va_S A s.heap s.heap [] := va_S.rf
  have hP : va_P (dC, dI) classes (WS_M_weight cI cL cZ h0 a_currency a_sort a_closing a_average a_held a_sum a_told a_left a_step a_outside a_item v_thrown v_companies v_accounts v_done v_items v_held) s.heap := hP
  have hl := lv_entry ([.ref h0, .int p0, .int p1]) (n := 12) (Nat.le_of_ble_eq_true rfl)
  rw [lg_entry_eq]
  generalize (lg_sl ([.ref h0, .int p0, .int p1]) ++ List.replicate (12 - (lg_sl ([.ref h0, .int p0, .int p1])).length) Slot.unset).toArray = ls at hl ⊢
  have hl : lv_has ls 12 [(0, .ref h0), (1, .int p0), (2, .int p1)] := hl
  unfold wp_M_weight at hw
  refine (show ∀ (H : Heap) (locs : List Loc), va_P (dC, dI) classes (WS_M_weight cI cL cZ h0 a_currency a_sort a_closing a_average a_held a_sum a_told a_left a_step a_outside a_item v_thrown v_companies v_accounts v_done v_items v_held) H → va_S A s.heap H locs → W p l e (headSpec ws_M_weight rm_M_weight).room s m ([.ref h0, .int p0, .int p1] : List Value).toArray below meth c H locs 0 0 (MQ below (QC_M_weight dC dI cI cL cZ A h0 a_currency a_sort a_closing a_average a_held a_sum a_told a_left a_step a_outside a_item v_thrown v_companies v_accounts v_done v_items v_held post) ([.ref h0, .int p0, .int p1] : List Value).toArray s 0 0 A) (F0 m 0 ls []) from ?_) _ _ hP hS
  intro H locs hP hS
  refine lv_lconst (v := 0) hx hb d_M_weight_0 (by decide) ?_
  refine lv_lstore_n (lv' := [(3, .long 0), (0, .ref h0), (1, .int p0), (2, .int p1)]) hx hb d_M_weight_1 rfl hl (by decide) rfl (fun ls hl => ?_)
  refine lv_iload_n hx hb d_M_weight_2 rfl (lv_at hl 2 rfl) ?_
  refine lv_iconst (v := 1) hx hb d_M_weight_3 (by decide) ?_
  refine lv_icmp_ne (tgt := 15) hx hb d_M_weight_4 rfl (fun hc => ?_) (fun hc => ?_)
  ·
    have hw := hw.1 hc
    refine lv_iconst (v := 1) hx hb d_M_weight_15 (by decide) ?_
    refine lv_istore (lv' := [(5, .int 1), (3, .long 0), (0, .ref h0), (1, .int p0), (2, .int p1)]) hx hb d_M_weight_16 hl (by decide) rfl (fun ls hl => ?_)
    have hl := lv_sub hl [2, 3, 4, 1, 0] rfl
    obtain ⟨I18, μ18, hi18, hs18⟩ := hw
    have L18 : ∀ (n : Nat) (l3_18 : Int64) (l5_18 : Int32) (H : Heap) (locs : List Loc) (ls : Array Slot), μ18 l3_18 l5_18 < n → I18 l3_18 l5_18 → lv_has ls 12 [(0, .ref h0), (1, .int p0), (2, .int p1), (3, .long l3_18), (5, .int l5_18)] → va_P (dC, dI) classes (WS_M_weight cI cL cZ h0 a_currency a_sort a_closing a_average a_held a_sum a_told a_left a_step a_outside a_item v_thrown v_companies v_accounts v_done v_items v_held) H → va_D A (WS_M_weight cI cL cZ h0 a_currency a_sort a_closing a_average a_held a_sum a_told a_left a_step a_outside a_item v_thrown v_companies v_accounts v_done v_items v_held) → va_S A s.heap H locs → W p l e (headSpec ws_M_weight rm_M_weight).room s m ([.ref h0, .int p0, .int p1] : List Value).toArray below meth c H locs 0 0 (MQ below (QC_M_weight dC dI cI cL cZ A h0 a_currency a_sort a_closing a_average a_held a_sum a_told a_left a_step a_outside a_item v_thrown v_companies v_accounts v_done v_items v_held post) ([.ref h0, .int p0, .int p1] : List Value).toArray s 0 0 A) (F0 m 18 ls []) := by
      intro n
      induction n with
      | zero => intro l3_18 l5_18 H locs ls hn; exact absurd hn (Nat.not_lt_zero _)
      | succ n ih18 =>
        intro l3_18 l5_18 H locs ls hn18 hI hl hP hD hS
        have hw := hs18 l3_18 l5_18 hI
        refine lv_iload hx hb d_M_weight_18 (lv_at hl 4 rfl) ?_
        refine lv_bipush (v := 12) hx hb d_M_weight_20 (by decide) ?_
        refine lv_icmp_ge (tgt := 174) hx hb d_M_weight_22 rfl (fun hc => ?_) (fun hc => ?_)
        ·
          have hw := hw.1 hc
          refine lv_lload_n hx hb d_M_weight_174 rfl (lv_at hl 3 rfl) ?_
          exact W.lret (v := l3_18) hx hb hr (fun t ht hW => ⟨⟨l3_18, (), rfl, hw, ⟨by rw [ht]; exact hP, hD⟩⟩, hS.F ht⟩) hS.2.2 d_M_weight_175
        ·
          have hw := hw.2 hc
          refine lv_lconst (v := 0) hx hb d_M_weight_25 (by decide) ?_
          refine lv_lstore (lv' := [(6, .long 0), (0, .ref h0), (1, .int p0), (2, .int p1), (3, .long l3_18), (5, .int l5_18)]) hx hb d_M_weight_26 hl (by decide) rfl (fun ls hl => ?_)
          refine lv_iload_n hx hb d_M_weight_28 rfl (lv_at hl 2 rfl) ?_
          refine lv_iconst (v := 2) hx hb d_M_weight_29 (by decide) ?_
          refine lv_icmp_ne (tgt := 46) hx hb d_M_weight_30 rfl (fun hc => ?_) (fun hc => ?_)
          ·
            have hw := hw.1 hc
            refine lv_iconst (v := 1) hx hb d_M_weight_46 (by decide) ?_
            refine lv_istore (lv' := [(8, .int 1), (6, .long 0), (0, .ref h0), (1, .int p0), (2, .int p1), (3, .long l3_18), (5, .int l5_18)]) hx hb d_M_weight_47 hl (by decide) rfl (fun ls hl => ?_)
            have hl := lv_sub hl [2, 3, 4, 5, 6, 1, 0] rfl
            obtain ⟨I49, μ49, hi49, hs49⟩ := hw
            have L49 : ∀ (n : Nat) (l6_49 : Int64) (l8_49 : Int32) (H : Heap) (locs : List Loc) (ls : Array Slot), μ49 l6_49 l8_49 < n → I49 l6_49 l8_49 → lv_has ls 12 [(0, .ref h0), (1, .int p0), (2, .int p1), (3, .long l3_18), (5, .int l5_18), (6, .long l6_49), (8, .int l8_49)] → va_P (dC, dI) classes (WS_M_weight cI cL cZ h0 a_currency a_sort a_closing a_average a_held a_sum a_told a_left a_step a_outside a_item v_thrown v_companies v_accounts v_done v_items v_held) H → va_D A (WS_M_weight cI cL cZ h0 a_currency a_sort a_closing a_average a_held a_sum a_told a_left a_step a_outside a_item v_thrown v_companies v_accounts v_done v_items v_held) → va_S A s.heap H locs → W p l e (headSpec ws_M_weight rm_M_weight).room s m ([.ref h0, .int p0, .int p1] : List Value).toArray below meth c H locs 0 0 (MQ below (QC_M_weight dC dI cI cL cZ A h0 a_currency a_sort a_closing a_average a_held a_sum a_told a_left a_step a_outside a_item v_thrown v_companies v_accounts v_done v_items v_held post) ([.ref h0, .int p0, .int p1] : List Value).toArray s 0 0 A) (F0 m 49 ls []) := by
              intro n
              induction n with
              | zero => intro l6_49 l8_49 H locs ls hn; exact absurd hn (Nat.not_lt_zero _)
              | succ n ih49 =>
                intro l6_49 l8_49 H locs ls hn49 hI hl hP hD hS
                have hw := hs49 l6_49 l8_49 hI
                refine lv_iload hx hb d_M_weight_49 (lv_at hl 6 rfl) ?_
                refine lv_bipush (v := 12) hx hb d_M_weight_51 (by decide) ?_
                refine lv_icmp_ge (tgt := 149) hx hb d_M_weight_53 rfl (fun hc => ?_) (fun hc => ?_)
                ·
                  have hw := hw.1 hc
                  refine lv_lload_n hx hb d_M_weight_149 rfl (lv_at hl 3 rfl) ?_
                  refine lv_lload hx hb d_M_weight_150 (lv_at hl 5 rfl) ?_
                  refine lv_aload_n hx hb d_M_weight_152 rfl (lv_at hl 0 rfl) ?_
                  refine va_get (D := (dC, dI)) (ci := 3) (v := .ref a_held) (C := R_M) (T := F_M) (N := 16) hx hb hts (kx_in in_M) hown hK hP 0 rfl rfl 7 (by decide) (hts _ (kx_w iw_482)) (fun _ h9 => h9) rfl d_M_weight_153 ?_
                  refine lv_bipush (v := 12) hx hb d_M_weight_156 (by decide) ?_
                  refine lv_iload hx hb d_M_weight_158 (lv_at hl 4 rfl) ?_
                  refine lv_imul hx hb d_M_weight_160 ?_
                  refine lv_iload_n hx hb d_M_weight_161 rfl (lv_at hl 2 rfl) ?_
                  refine lv_iadd hx hb d_M_weight_162 ?_
                  obtain ⟨hi, hw⟩ := hw
                  refine va_iald hx hb hK hP 1 0 rfl rfl hi d_M_weight_163 ?_
                  refine lv_i2l hx hb d_M_weight_164 rfl ?_
                  refine lv_lmul hx hb d_M_weight_165 ?_
                  refine lv_ladd hx hb d_M_weight_166 ?_
                  refine lv_topl (fun x167 e167 => ?_)
                  have hw := hw x167 e167
                  refine lv_lstore_n (lv' := [(3, .long x167), (0, .ref h0), (1, .int p0), (2, .int p1), (5, .int l5_18), (6, .long l6_49), (8, .int l8_49)]) hx hb d_M_weight_167 rfl hl (by decide) rfl (fun ls hl => ?_)
                  refine lv_iinc (v := (l5_18 + 1)) (lv' := [(5, .int (l5_18 + 1)), (3, .long x167), (0, .ref h0), (1, .int p0), (2, .int p1), (6, .long l6_49), (8, .int l8_49)]) hx hb d_M_weight_168 hl (k := 4) rfl rfl (by decide) rfl (fun ls hl => ?_)
                  refine lv_goto (tgt := 18) hx hb d_M_weight_171 rfl ?_
                  have hl := lv_sub hl [2, 3, 4, 1, 0] rfl
                  exact ih18 x167 (l5_18 + 1) _ _ _ (Nat.lt_of_lt_of_le hw.2 (Nat.le_of_lt_succ hn18)) hw.1 hl hP hD hS
                ·
                  have hw := hw.2 hc
                  refine lv_lconst (v := 0) hx hb d_M_weight_56 (by decide) ?_
                  refine lv_lstore (lv' := [(9, .long 0), (0, .ref h0), (1, .int p0), (2, .int p1), (3, .long l3_18), (5, .int l5_18), (6, .long l6_49), (8, .int l8_49)]) hx hb d_M_weight_57 hl (by decide) rfl (fun ls hl => ?_)
                  refine lv_iload_n hx hb d_M_weight_59 rfl (lv_at hl 2 rfl) ?_
                  refine lv_iconst (v := 3) hx hb d_M_weight_60 (by decide) ?_
                  refine lv_icmp_ne (tgt := 77) hx hb d_M_weight_61 rfl (fun hc => ?_) (fun hc => ?_)
                  ·
                    have hw := hw.1 hc
                    refine lv_iconst (v := 1) hx hb d_M_weight_77 (by decide) ?_
                    refine lv_istore (lv' := [(11, .int 1), (9, .long 0), (0, .ref h0), (1, .int p0), (2, .int p1), (3, .long l3_18), (5, .int l5_18), (6, .long l6_49), (8, .int l8_49)]) hx hb d_M_weight_78 hl (by decide) rfl (fun ls hl => ?_)
                    have hl := lv_sub hl [2, 3, 4, 5, 6, 7, 8, 1, 0] rfl
                    obtain ⟨I80, μ80, hi80, hs80⟩ := hw
                    have L80 : ∀ (n : Nat) (l9_80 : Int64) (l11_80 : Int32) (H : Heap) (locs : List Loc) (ls : Array Slot), μ80 l9_80 l11_80 < n → I80 l9_80 l11_80 → lv_has ls 12 [(0, .ref h0), (1, .int p0), (2, .int p1), (3, .long l3_18), (5, .int l5_18), (6, .long l6_49), (8, .int l8_49), (9, .long l9_80), (11, .int l11_80)] → va_P (dC, dI) classes (WS_M_weight cI cL cZ h0 a_currency a_sort a_closing a_average a_held a_sum a_told a_left a_step a_outside a_item v_thrown v_companies v_accounts v_done v_items v_held) H → va_D A (WS_M_weight cI cL cZ h0 a_currency a_sort a_closing a_average a_held a_sum a_told a_left a_step a_outside a_item v_thrown v_companies v_accounts v_done v_items v_held) → va_S A s.heap H locs → W p l e (headSpec ws_M_weight rm_M_weight).room s m ([.ref h0, .int p0, .int p1] : List Value).toArray below meth c H locs 0 0 (MQ below (QC_M_weight dC dI cI cL cZ A h0 a_currency a_sort a_closing a_average a_held a_sum a_told a_left a_step a_outside a_item v_thrown v_companies v_accounts v_done v_items v_held post) ([.ref h0, .int p0, .int p1] : List Value).toArray s 0 0 A) (F0 m 80 ls []) := by
                      intro n
                      induction n with
                      | zero => intro l9_80 l11_80 H locs ls hn; exact absurd hn (Nat.not_lt_zero _)
                      | succ n ih80 =>
                        intro l9_80 l11_80 H locs ls hn80 hI hl hP hD hS
                        have hw := hs80 l9_80 l11_80 hI
                        refine lv_iload hx hb d_M_weight_80 (lv_at hl 8 rfl) ?_
                        refine lv_bipush (v := 12) hx hb d_M_weight_82 (by decide) ?_
                        refine lv_icmp_ge (tgt := 121) hx hb d_M_weight_84 rfl (fun hc => ?_) (fun hc => ?_)
                        ·
                          have hw := hw.1 hc
                          refine lv_lload hx hb d_M_weight_121 (lv_at hl 5 rfl) ?_
                          refine lv_lload hx hb d_M_weight_123 (lv_at hl 7 rfl) ?_
                          refine lv_aload_n hx hb d_M_weight_125 rfl (lv_at hl 0 rfl) ?_
                          refine va_get (D := (dC, dI)) (ci := 3) (v := .ref a_held) (C := R_M) (T := F_M) (N := 16) hx hb hts (kx_in in_M) hown hK hP 0 rfl rfl 7 (by decide) (hts _ (kx_w iw_482)) (fun _ h9 => h9) rfl d_M_weight_126 ?_
                          refine lv_bipush (v := 12) hx hb d_M_weight_129 (by decide) ?_
                          refine lv_iload hx hb d_M_weight_131 (lv_at hl 6 rfl) ?_
                          refine lv_imul hx hb d_M_weight_133 ?_
                          refine lv_iload hx hb d_M_weight_134 (lv_at hl 4 rfl) ?_
                          refine lv_iadd hx hb d_M_weight_136 ?_
                          obtain ⟨hi, hw⟩ := hw
                          refine va_iald hx hb hK hP 1 0 rfl rfl hi d_M_weight_137 ?_
                          refine lv_i2l hx hb d_M_weight_138 rfl ?_
                          refine lv_lmul hx hb d_M_weight_139 ?_
                          refine lv_ladd hx hb d_M_weight_140 ?_
                          refine lv_topl (fun x141 e141 => ?_)
                          have hw := hw x141 e141
                          refine lv_lstore (lv' := [(6, .long x141), (0, .ref h0), (1, .int p0), (2, .int p1), (3, .long l3_18), (5, .int l5_18), (8, .int l8_49), (9, .long l9_80), (11, .int l11_80)]) hx hb d_M_weight_141 hl (by decide) rfl (fun ls hl => ?_)
                          refine lv_iinc (v := (l8_49 + 1)) (lv' := [(8, .int (l8_49 + 1)), (6, .long x141), (0, .ref h0), (1, .int p0), (2, .int p1), (3, .long l3_18), (5, .int l5_18), (9, .long l9_80), (11, .int l11_80)]) hx hb d_M_weight_143 hl (k := 6) rfl rfl (by decide) rfl (fun ls hl => ?_)
                          refine lv_goto (tgt := 49) hx hb d_M_weight_146 rfl ?_
                          have hl := lv_sub hl [2, 3, 4, 5, 6, 1, 0] rfl
                          exact ih49 x141 (l8_49 + 1) _ _ _ (Nat.lt_of_lt_of_le hw.2 (Nat.le_of_lt_succ hn49)) hw.1 hl hP hD hS
                        ·
                          have hw := hw.2 hc
                          refine lv_lload hx hb d_M_weight_87 (lv_at hl 7 rfl) ?_
                          refine lv_aload_n hx hb d_M_weight_89 rfl (lv_at hl 0 rfl) ?_
                          refine va_get (D := (dC, dI)) (ci := 3) (v := .ref a_held) (C := R_M) (T := F_M) (N := 16) hx hb hts (kx_in in_M) hown hK hP 0 rfl rfl 7 (by decide) (hts _ (kx_w iw_482)) (fun _ h9 => h9) rfl d_M_weight_90 ?_
                          refine lv_iload hx hb d_M_weight_93 (lv_at hl 8 rfl) ?_
                          obtain ⟨hi, hw⟩ := hw
                          refine va_iald hx hb hK hP 1 0 rfl rfl hi d_M_weight_95 ?_
                          refine lv_i2l hx hb d_M_weight_96 rfl ?_
                          refine lv_aload_n hx hb d_M_weight_97 rfl (lv_at hl 0 rfl) ?_
                          refine va_get (D := (dC, dI)) (ci := 3) (v := .ref a_held) (C := R_M) (T := F_M) (N := 16) hx hb hts (kx_in in_M) hown hK hP 0 rfl rfl 7 (by decide) (hts _ (kx_w iw_482)) (fun _ h9 => h9) rfl d_M_weight_98 ?_
                          refine lv_bipush (v := 12) hx hb d_M_weight_101 (by decide) ?_
                          refine lv_iload hx hb d_M_weight_103 (lv_at hl 8 rfl) ?_
                          refine lv_imul hx hb d_M_weight_105 ?_
                          refine lv_iload hx hb d_M_weight_106 (lv_at hl 6 rfl) ?_
                          refine lv_iadd hx hb d_M_weight_108 ?_
                          obtain ⟨hi, hw⟩ := hw
                          refine va_iald hx hb hK hP 1 0 rfl rfl hi d_M_weight_109 ?_
                          refine lv_i2l hx hb d_M_weight_110 rfl ?_
                          refine lv_lmul hx hb d_M_weight_111 ?_
                          refine lv_ladd hx hb d_M_weight_112 ?_
                          refine lv_topl (fun x113 e113 => ?_)
                          have hw := hw x113 e113
                          refine lv_lstore (lv' := [(9, .long x113), (0, .ref h0), (1, .int p0), (2, .int p1), (3, .long l3_18), (5, .int l5_18), (6, .long l6_49), (8, .int l8_49), (11, .int l11_80)]) hx hb d_M_weight_113 hl (by decide) rfl (fun ls hl => ?_)
                          refine lv_iinc (v := (l11_80 + 1)) (lv' := [(11, .int (l11_80 + 1)), (9, .long x113), (0, .ref h0), (1, .int p0), (2, .int p1), (3, .long l3_18), (5, .int l5_18), (6, .long l6_49), (8, .int l8_49)]) hx hb d_M_weight_115 hl (k := 8) rfl rfl (by decide) rfl (fun ls hl => ?_)
                          refine lv_goto (tgt := 80) hx hb d_M_weight_118 rfl ?_
                          have hl := lv_sub hl [2, 3, 4, 5, 6, 7, 8, 1, 0] rfl
                          exact ih80 x113 (l11_80 + 1) _ _ _ (Nat.lt_of_lt_of_le hw.2 (Nat.le_of_lt_succ hn80)) hw.1 hl hP hD hS
                    exact L80 _ 0 1 _ _ _ (Nat.lt_succ_self _) hi80 hl hP hD hS
                  ·
                    have hw := hw.2 hc
                    refine lv_aload_n hx hb d_M_weight_64 rfl (lv_at hl 1 rfl) ?_
                    refine va_get (D := (dC, dI)) (ci := 3) (v := .ref a_held) (C := R_M) (T := F_M) (N := 16) hx hb hts (kx_in in_M) hown hK hP 0 rfl rfl 7 (by decide) (hts _ (kx_w iw_482)) (fun _ h9 => h9) rfl d_M_weight_65 ?_
                    refine lv_iload hx hb d_M_weight_68 (lv_at hl 7 rfl) ?_
                    obtain ⟨hi, hw⟩ := hw
                    refine va_iald hx hb hK hP 1 0 rfl rfl hi d_M_weight_70 ?_
                    refine lv_i2l hx hb d_M_weight_71 rfl ?_
                    refine lv_topl (fun x72 e72 => ?_)
                    have hw := hw x72 e72
                    refine lv_lstore (lv' := [(9, .long x72), (0, .ref h0), (1, .int p0), (2, .int p1), (3, .long l3_18), (5, .int l5_18), (6, .long l6_49), (8, .int l8_49)]) hx hb d_M_weight_72 hl (by decide) rfl (fun ls hl => ?_)
                    refine lv_goto (tgt := 121) hx hb d_M_weight_74 rfl ?_
                    refine lv_lload hx hb d_M_weight_121 (lv_at hl 6 rfl) ?_
                    refine lv_lload hx hb d_M_weight_123 (lv_at hl 0 rfl) ?_
                    refine lv_aload_n hx hb d_M_weight_125 rfl (lv_at hl 1 rfl) ?_
                    refine va_get (D := (dC, dI)) (ci := 3) (v := .ref a_held) (C := R_M) (T := F_M) (N := 16) hx hb hts (kx_in in_M) hown hK hP 0 rfl rfl 7 (by decide) (hts _ (kx_w iw_482)) (fun _ h9 => h9) rfl d_M_weight_126 ?_
                    refine lv_bipush (v := 12) hx hb d_M_weight_129 (by decide) ?_
                    refine lv_iload hx hb d_M_weight_131 (lv_at hl 7 rfl) ?_
                    refine lv_imul hx hb d_M_weight_133 ?_
                    refine lv_iload hx hb d_M_weight_134 (lv_at hl 5 rfl) ?_
                    refine lv_iadd hx hb d_M_weight_136 ?_
                    obtain ⟨hi, hw⟩ := hw
                    refine va_iald hx hb hK hP 1 0 rfl rfl hi d_M_weight_137 ?_
                    refine lv_i2l hx hb d_M_weight_138 rfl ?_
                    refine lv_lmul hx hb d_M_weight_139 ?_
                    refine lv_ladd hx hb d_M_weight_140 ?_
                    refine lv_topl (fun x141 e141 => ?_)
                    have hw := hw x141 e141
                    refine lv_lstore (lv' := [(6, .long x141), (9, .long x72), (0, .ref h0), (1, .int p0), (2, .int p1), (3, .long l3_18), (5, .int l5_18), (8, .int l8_49)]) hx hb d_M_weight_141 hl (by decide) rfl (fun ls hl => ?_)
                    refine lv_iinc (v := (l8_49 + 1)) (lv' := [(8, .int (l8_49 + 1)), (6, .long x141), (9, .long x72), (0, .ref h0), (1, .int p0), (2, .int p1), (3, .long l3_18), (5, .int l5_18)]) hx hb d_M_weight_143 hl (k := 7) rfl rfl (by decide) rfl (fun ls hl => ?_)
                    refine lv_goto (tgt := 49) hx hb d_M_weight_146 rfl ?_
                    have hl := lv_sub hl [3, 4, 5, 6, 7, 1, 0] rfl
                    exact ih49 x141 (l8_49 + 1) _ _ _ (Nat.lt_of_lt_of_le hw.2 (Nat.le_of_lt_succ hn49)) hw.1 hl hP hD hS
            exact L49 _ 0 1 _ _ _ (Nat.lt_succ_self _) hi49 hl hP hD hS
          ·
            have hw := hw.2 hc
            refine lv_aload_n hx hb d_M_weight_33 rfl (lv_at hl 1 rfl) ?_
            refine va_get (D := (dC, dI)) (ci := 3) (v := .ref a_held) (C := R_M) (T := F_M) (N := 16) hx hb hts (kx_in in_M) hown hK hP 0 rfl rfl 7 (by decide) (hts _ (kx_w iw_482)) (fun _ h9 => h9) rfl d_M_weight_34 ?_
            refine lv_iload hx hb d_M_weight_37 (lv_at hl 5 rfl) ?_
            obtain ⟨hi, hw⟩ := hw
            refine va_iald hx hb hK hP 1 0 rfl rfl hi d_M_weight_39 ?_
            refine lv_i2l hx hb d_M_weight_40 rfl ?_
            refine lv_topl (fun x41 e41 => ?_)
            have hw := hw x41 e41
            refine lv_lstore (lv' := [(6, .long x41), (0, .ref h0), (1, .int p0), (2, .int p1), (3, .long l3_18), (5, .int l5_18)]) hx hb d_M_weight_41 hl (by decide) rfl (fun ls hl => ?_)
            refine lv_goto (tgt := 149) hx hb d_M_weight_43 rfl ?_
            refine lv_lload_n hx hb d_M_weight_149 rfl (lv_at hl 4 rfl) ?_
            refine lv_lload hx hb d_M_weight_150 (lv_at hl 0 rfl) ?_
            refine lv_aload_n hx hb d_M_weight_152 rfl (lv_at hl 1 rfl) ?_
            refine va_get (D := (dC, dI)) (ci := 3) (v := .ref a_held) (C := R_M) (T := F_M) (N := 16) hx hb hts (kx_in in_M) hown hK hP 0 rfl rfl 7 (by decide) (hts _ (kx_w iw_482)) (fun _ h9 => h9) rfl d_M_weight_153 ?_
            refine lv_bipush (v := 12) hx hb d_M_weight_156 (by decide) ?_
            refine lv_iload hx hb d_M_weight_158 (lv_at hl 5 rfl) ?_
            refine lv_imul hx hb d_M_weight_160 ?_
            refine lv_iload_n hx hb d_M_weight_161 rfl (lv_at hl 3 rfl) ?_
            refine lv_iadd hx hb d_M_weight_162 ?_
            obtain ⟨hi, hw⟩ := hw
            refine va_iald hx hb hK hP 1 0 rfl rfl hi d_M_weight_163 ?_
            refine lv_i2l hx hb d_M_weight_164 rfl ?_
            refine lv_lmul hx hb d_M_weight_165 ?_
            refine lv_ladd hx hb d_M_weight_166 ?_
            refine lv_topl (fun x167 e167 => ?_)
            have hw := hw x167 e167
            refine lv_lstore_n (lv' := [(3, .long x167), (6, .long x41), (0, .ref h0), (1, .int p0), (2, .int p1), (5, .int l5_18)]) hx hb d_M_weight_167 rfl hl (by decide) rfl (fun ls hl => ?_)
            refine lv_iinc (v := (l5_18 + 1)) (lv' := [(5, .int (l5_18 + 1)), (3, .long x167), (6, .long x41), (0, .ref h0), (1, .int p0), (2, .int p1)]) hx hb d_M_weight_168 hl (k := 5) rfl rfl (by decide) rfl (fun ls hl => ?_)
            refine lv_goto (tgt := 18) hx hb d_M_weight_171 rfl ?_
            have hl := lv_sub hl [3, 4, 5, 1, 0] rfl
            exact ih18 x167 (l5_18 + 1) _ _ _ (Nat.lt_of_lt_of_le hw.2 (Nat.le_of_lt_succ hn18)) hw.1 hl hP hD hS
    exact L18 _ 0 1 _ _ _ (Nat.lt_succ_self _) hi18 hl hP hD hS
  ·
    have hw := hw.2 hc
    refine lv_aload_n hx hb d_M_weight_7 rfl (lv_at hl 1 rfl) ?_
    refine va_get (D := (dC, dI)) (ci := 3) (v := .ref a_held) (C := R_M) (T := F_M) (N := 16) hx hb hts (kx_in in_M) hown hK hP 0 rfl rfl 7 (by decide) (hts _ (kx_w iw_482)) (fun _ h9 => h9) rfl d_M_weight_8 ?_
    refine lv_iload_n hx hb d_M_weight_11 rfl (lv_at hl 3 rfl) ?_
    obtain ⟨hi, hw⟩ := hw
    refine va_iald hx hb hK hP 1 0 rfl rfl hi d_M_weight_12 ?_
    refine lv_i2l hx hb d_M_weight_13 rfl ?_
    exact W.lret (v := (Int32.toInt64 (v_held p1.toNatClampNeg))) hx hb hr (fun t ht hW => ⟨⟨(Int32.toInt64 (v_held p1.toNatClampNeg)), (), rfl, hw, ⟨by rw [ht]; exact hP, hD⟩⟩, hS.F ht⟩) hS.2.2 d_M_weight_14
/-! ConsolidationDeskModel.effective(I)J -/
abbrev y_M_effective : MethodName := ⟨"ConsolidationDeskModel", "effective", "(I)J"⟩
theorem d_M_effective_0 : decode prog_5_method_21_code 0 = .ok (.aload_n 0, 1) := by decide +kernel
theorem d_M_effective_1 : decode prog_5_method_21_code 1 = .ok (.iconst 0, 1) := by decide +kernel
theorem d_M_effective_2 : decode prog_5_method_21_code 2 = .ok (.putfield 49, 3) := by decide +kernel
theorem d_M_effective_5 : decode prog_5_method_21_code 5 = .ok (.aload_n 0, 1) := by decide +kernel
theorem d_M_effective_6 : decode prog_5_method_21_code 6 = .ok (.iload_n 1, 1) := by decide +kernel
theorem d_M_effective_7 : decode prog_5_method_21_code 7 = .ok (.invokevirtual 59, 3) := by decide +kernel
theorem d_M_effective_10 : decode prog_5_method_21_code 10 = .ok (.ifCond .ne 7, 3) := by decide +kernel
theorem d_M_effective_13 : decode prog_5_method_21_code 13 = .ok (.ldc2_w 94, 3) := by decide +kernel
theorem d_M_effective_16 : decode prog_5_method_21_code 16 = .ok (.lreturn, 1) := by decide +kernel
theorem d_M_effective_17 : decode prog_5_method_21_code 17 = .ok (.iload_n 1, 1) := by decide +kernel
theorem d_M_effective_18 : decode prog_5_method_21_code 18 = .ok (.ifCond .ne 7, 3) := by decide +kernel
theorem d_M_effective_21 : decode prog_5_method_21_code 21 = .ok (.ldc2_w 96, 3) := by decide +kernel
theorem d_M_effective_24 : decode prog_5_method_21_code 24 = .ok (.lreturn, 1) := by decide +kernel
theorem d_M_effective_25 : decode prog_5_method_21_code 25 = .ok (.aload_n 0, 1) := by decide +kernel
theorem d_M_effective_26 : decode prog_5_method_21_code 26 = .ok (.iconst 1, 1) := by decide +kernel
theorem d_M_effective_27 : decode prog_5_method_21_code 27 = .ok (.iload_n 1, 1) := by decide +kernel
theorem d_M_effective_28 : decode prog_5_method_21_code 28 = .ok (.invokevirtual 98, 3) := by decide +kernel
theorem d_M_effective_31 : decode prog_5_method_21_code 31 = .ok (.ldc2_w 87, 3) := by decide +kernel
theorem d_M_effective_34 : decode prog_5_method_21_code 34 = .ok (.lmul, 1) := by decide +kernel
theorem d_M_effective_35 : decode prog_5_method_21_code 35 = .ok (.aload_n 0, 1) := by decide +kernel
theorem d_M_effective_36 : decode prog_5_method_21_code 36 = .ok (.iconst 2, 1) := by decide +kernel
theorem d_M_effective_37 : decode prog_5_method_21_code 37 = .ok (.iload_n 1, 1) := by decide +kernel
theorem d_M_effective_38 : decode prog_5_method_21_code 38 = .ok (.invokevirtual 98, 3) := by decide +kernel
theorem d_M_effective_41 : decode prog_5_method_21_code 41 = .ok (.ldc2_w 102, 3) := by decide +kernel
theorem d_M_effective_44 : decode prog_5_method_21_code 44 = .ok (.lmul, 1) := by decide +kernel
theorem d_M_effective_45 : decode prog_5_method_21_code 45 = .ok (.ladd, 1) := by decide +kernel
theorem d_M_effective_46 : decode prog_5_method_21_code 46 = .ok (.aload_n 0, 1) := by decide +kernel
theorem d_M_effective_47 : decode prog_5_method_21_code 47 = .ok (.iconst 3, 1) := by decide +kernel
theorem d_M_effective_48 : decode prog_5_method_21_code 48 = .ok (.iload_n 1, 1) := by decide +kernel
theorem d_M_effective_49 : decode prog_5_method_21_code 49 = .ok (.invokevirtual 98, 3) := by decide +kernel
theorem d_M_effective_52 : decode prog_5_method_21_code 52 = .ok (.ldc2_w 104, 3) := by decide +kernel
theorem d_M_effective_55 : decode prog_5_method_21_code 55 = .ok (.lmul, 1) := by decide +kernel
theorem d_M_effective_56 : decode prog_5_method_21_code 56 = .ok (.ladd, 1) := by decide +kernel
theorem d_M_effective_57 : decode prog_5_method_21_code 57 = .ok (.aload_n 0, 1) := by decide +kernel
theorem d_M_effective_58 : decode prog_5_method_21_code 58 = .ok (.iconst 4, 1) := by decide +kernel
theorem d_M_effective_59 : decode prog_5_method_21_code 59 = .ok (.iload_n 1, 1) := by decide +kernel
theorem d_M_effective_60 : decode prog_5_method_21_code 60 = .ok (.invokevirtual 98, 3) := by decide +kernel
theorem d_M_effective_63 : decode prog_5_method_21_code 63 = .ok (.ladd, 1) := by decide +kernel
theorem d_M_effective_64 : decode prog_5_method_21_code 64 = .ok (.lreturn, 1) := by decide +kernel
abbrev WS_M_effective (cI cL cZ : ClassId)  (h0 a_currency a_sort a_closing a_average a_held a_sum a_told a_left a_step a_outside a_item : Nat) (v_thrown : Int32) (v_companies : Int32) (v_accounts : Int32) (v_done : Int32) (v_items : Int32) (v_held : (Nat → Int32)) : va_W := [(h0, .inr (3, [.int v_thrown, .int v_companies, .int v_accounts, .ref a_currency, .ref a_sort, .ref a_closing, .ref a_average, .ref a_held, .ref a_sum, .ref a_told, .int v_done, .ref a_left, .ref a_step, .ref a_outside, .int v_items, .ref a_item])), (a_held, .inl (cI, 144, .inl v_held))]
def wp_M_effective  (p0 : Int32) (v_thrown : Int32) (v_companies : Int32) (v_held : (Nat → Int32)) (post : Int64 → Int32 → Prop) : Prop := (wp_M_isCompany p0 v_companies (fun (r7 : Int32) (u7 : Unit) => ((¬ r7 = 0 → ((¬ p0 = 0 → (wp_M_weight 1 p0 v_held (fun (r28 : Int64) (u28 : Unit) => (wp_M_weight 2 p0 v_held (fun (r38 : Int64) (u38 : Unit) => (wp_M_weight 3 p0 v_held (fun (r49 : Int64) (u49 : Unit) => (wp_M_weight 4 p0 v_held (fun (r60 : Int64) (u60 : Unit) => post ((((r28 * 1000000000000) + (r38 * 100000000)) + (r49 * 10000)) + r60) 0))))))))) ∧ (p0 = 0 → post 10000000000000000 0))) ∧ (r7 = 0 → post (-1) 0))))
abbrev ws_M_effective : List Cond := .code y_M_effective prog_5_method_21_code 2 (some .long) :: kxW
abbrev rm_M_effective : Room := { frames := 1, cells := 0, slots := 0, locals := 31 }
abbrev QC_M_effective (dC : Nat → ClassId) (dI : Nat → Nat → Nat) (cI cL cZ : ClassId) (A : Nat → Prop)  (h0 a_currency a_sort a_closing a_average a_held a_sum a_told a_left a_step a_outside a_item : Nat) (v_thrown : Int32) (v_companies : Int32) (v_accounts : Int32) (v_done : Int32) (v_items : Int32) (v_held : (Nat → Int32)) (post : Int64 → Int32 → Prop) : Array Value → State → Outcome → State → Prop := va_Ql post (fun (u : Int32) t => kx_B (dC, dI) classes A (WS_M_effective cI cL cZ h0 a_currency a_sort a_closing a_average a_held a_sum a_told a_left a_step a_outside a_item u v_companies v_accounts v_done v_items v_held) t) A
set_option maxHeartbeats 4000000 in
set_option maxRecDepth 100000 in
theorem c_M_effective (l : Launch) (dC : Nat → ClassId) (dI : Nat → Nat → Nat) (cI cL cZ : ClassId)  (h0 a_currency a_sort a_closing a_average a_held a_sum a_told a_left a_step a_outside a_item : Nat) (v_thrown : Int32) (v_companies : Int32) (v_accounts : Int32) (v_done : Int32) (v_items : Int32) (v_held : (Nat → Int32)) (sz : Nat) (p0 : Int32) {post : Int64 → Int32 → Prop} (hw : wp_M_effective p0 v_thrown v_companies v_held post) : Met l y_M_effective ws_M_effective rm_M_effective (kx_Pc (dC, dI) classes (kx_T cI cL cZ) (WS_M_effective cI cL cZ h0 a_currency a_sort a_closing a_average a_held a_sum a_told a_left a_step a_outside a_item v_thrown v_companies v_accounts v_done v_items v_held) sz [.ref h0, .int p0]) (QC_M_effective dC dI cI cL cZ (va_A (WS_M_effective cI cL cZ h0 a_currency a_sort a_closing a_average a_held a_sum a_told a_left a_step a_outside a_item v_thrown v_companies v_accounts v_done v_items v_held) sz) h0 a_currency a_sort a_closing a_average a_held a_sum a_told a_left a_step a_outside a_item v_thrown v_companies v_accounts v_done v_items v_held post) 0 0 (va_A (WS_M_effective cI cL cZ h0 a_currency a_sort a_closing a_average a_held a_sum a_told a_left a_step a_outside a_item v_thrown v_companies v_accounts v_done v_items v_held) sz) := by
  refine Met.ofW (cc := prog_5_method_21_code) (maxL := 2) (ret := (some .long)) (by decide) rfl ?_
  intro p e s m args below meth c s₁ B hml hv
  obtain ⟨rfl, hsz, hP, hK, hD0, hN⟩ := hv
  have hx := B.exec
  have hb := B.bytes
  have hr := B.returns
  have hts := atoms_spec (ws := ws_M_effective) B.pre
  have hown : s.vm.findClass R_M = some m.cls := findClass_of_methodNamed B.named
  have hlocks := B.notSynchronized
  subst hsz
  have hD := hD0.self (sz := s.heap.size)
  generalize hAe : va_A (WS_M_effective cI cL cZ h0 a_currency a_sort a_closing a_average a_held a_sum a_told a_left a_step a_outside a_item v_thrown v_companies v_accounts v_done v_items v_held) s.heap.size = A at hD ⊢
  have hA : ∀ q : Nat, s.heap.size ≤ q → A q := fun q h => by rw [← hAe]; exact Or.inr h
  have hS : va_S A s.heap s.heap [] := va_S.rf
  have hP : va_P (dC, dI) classes (WS_M_effective cI cL cZ h0 a_currency a_sort a_closing a_average a_held a_sum a_told a_left a_step a_outside a_item v_thrown v_companies v_accounts v_done v_items v_held) s.heap := hP
  have hl := lv_entry ([.ref h0, .int p0]) (n := 2) (Nat.le_of_ble_eq_true rfl)
  rw [lg_entry_eq]
  generalize (lg_sl ([.ref h0, .int p0]) ++ List.replicate (2 - (lg_sl ([.ref h0, .int p0])).length) Slot.unset).toArray = ls at hl ⊢
  have hl : lv_has ls 2 [(0, .ref h0), (1, .int p0)] := hl
  unfold wp_M_effective at hw
  refine (show ∀ (H : Heap) (locs : List Loc), va_P (dC, dI) classes (WS_M_effective cI cL cZ h0 a_currency a_sort a_closing a_average a_held a_sum a_told a_left a_step a_outside a_item v_thrown v_companies v_accounts v_done v_items v_held) H → va_S A s.heap H locs → W p l e (headSpec ws_M_effective rm_M_effective).room s m ([.ref h0, .int p0] : List Value).toArray below meth c H locs 0 0 (MQ below (QC_M_effective dC dI cI cL cZ A h0 a_currency a_sort a_closing a_average a_held a_sum a_told a_left a_step a_outside a_item v_thrown v_companies v_accounts v_done v_items v_held post) ([.ref h0, .int p0] : List Value).toArray s 0 0 A) (F0 m 0 ls []) from ?_) _ _ hP hS
  intro H locs hP hS
  refine lv_aload_n hx hb d_M_effective_0 rfl (lv_at hl 0 rfl) ?_
  refine lv_iconst (v := 0) hx hb d_M_effective_1 (by decide) ?_
  refine va_put (D := (dC, dI)) (ci := 3) (v := .int 0) (ty := .int) (C := R_M) (T := F_M) (N := 16) hx hb hts (kx_in in_M) t_M t_M_ok n_M hown hK hP hD hS 0 rfl rfl 0 (by decide) (hts _ (kx_w iw_475)) (fun _ h9 => h9) rfl (by decide +kernel) rfl rfl (Nat.le_of_ble_eq_true rfl) d_M_effective_2 (fun H locs hP hD hS => ?_)
  have hP : va_P (dC, dI) classes (WS_M_effective cI cL cZ h0 a_currency a_sort a_closing a_average a_held a_sum a_told a_left a_step a_outside a_item 0 v_companies v_accounts v_done v_items v_held) H := hP
  have hD : va_D A (WS_M_effective cI cL cZ h0 a_currency a_sort a_closing a_average a_held a_sum a_told a_left a_step a_outside a_item 0 v_companies v_accounts v_done v_items v_held) := hD
  refine lv_aload_n hx hb d_M_effective_5 rfl (lv_at hl 0 rfl) ?_
  refine lv_iload_n hx hb d_M_effective_6 rfl (lv_at hl 1 rfl) ?_
  refine kx_calli (ws' := fun u7 => (WS_M_effective cI cL cZ h0 a_currency a_sort a_closing a_average a_held a_sum a_told a_left a_step a_outside a_item 0 v_companies v_accounts v_done v_items v_held)) (va_runV (As := [.int p0]) (rest := []) ⟨hx, hb, hml, hown, hts⟩ (c_M_isCompany l dC dI cI cL cZ h0 a_currency a_sort a_closing a_average a_held a_sum a_told a_left a_step a_outside a_item 0 v_companies v_accounts v_done v_items H.size p0 hw) ⟨(callB_of 1 hts (kx_good iw_547) rfl rfl rfl (hts _ (kx_w iw_4)) (hts _ (kx_w iw_544)) (by decide +kernel) ⟨Nat.le_of_ble_eq_true rfl, Nat.le_of_ble_eq_true rfl⟩), (hts _ (kx_w iw_546)), (hts _ (kx_w sl_M_isCompany))⟩ (kx_preV hN hK hP hD [0] (by decide) rfl 0 rfl rfl) rfl rfl hl.1 rfl (lv_room (Nat.le_of_ble_eq_true rfl)) d_M_effective_7 ⟨Nat.le_of_ble_eq_true rfl, Nat.le_of_ble_eq_true rfl⟩) hP hD hS hA [0] [1] rfl rfl (by decide) (by decide) [1, 0] (by decide) (fun _ => rfl) (fun r7 u7 H locs hw hP hD hS => ?_)
  have hP : va_P (dC, dI) classes (WS_M_effective cI cL cZ h0 a_currency a_sort a_closing a_average a_held a_sum a_told a_left a_step a_outside a_item 0 v_companies v_accounts v_done v_items v_held) H := hP
  have hD : va_D A (WS_M_effective cI cL cZ h0 a_currency a_sort a_closing a_average a_held a_sum a_told a_left a_step a_outside a_item 0 v_companies v_accounts v_done v_items v_held) := hD
  refine lv_if_ne (tgt := 17) hx hb d_M_effective_10 rfl (fun hc => ?_) (fun hc => ?_)
  ·
    have hw := hw.1 hc
    refine lv_iload_n hx hb d_M_effective_17 rfl (lv_at hl 1 rfl) ?_
    refine lv_if_ne (tgt := 25) hx hb d_M_effective_18 rfl (fun hc => ?_) (fun hc => ?_)
    ·
      have hw := hw.1 hc
      refine lv_aload_n hx hb d_M_effective_25 rfl (lv_at hl 0 rfl) ?_
      refine lv_iconst (v := 1) hx hb d_M_effective_26 (by decide) ?_
      refine lv_iload_n hx hb d_M_effective_27 rfl (lv_at hl 1 rfl) ?_
      refine kx_calll (ws' := fun u28 => (WS_M_effective cI cL cZ h0 a_currency a_sort a_closing a_average a_held a_sum a_told a_left a_step a_outside a_item 0 v_companies v_accounts v_done v_items v_held)) (va_runV (As := [.int 1, .int p0]) (rest := []) ⟨hx, hb, hml, hown, hts⟩ (c_M_weight l dC dI cI cL cZ h0 a_currency a_sort a_closing a_average a_held a_sum a_told a_left a_step a_outside a_item 0 v_companies v_accounts v_done v_items v_held H.size 1 p0 hw) ⟨(callB_of 2 hts (kx_good iw_608) rfl rfl rfl (hts _ (kx_w iw_4)) (hts _ (kx_w iw_605)) (by decide +kernel) ⟨Nat.le_of_ble_eq_true rfl, Nat.le_of_ble_eq_true rfl⟩), (hts _ (kx_w iw_607)), (hts _ (kx_w sl_M_weight))⟩ (kx_preV hN hK hP hD [0, 1] (by decide) rfl 0 rfl rfl) rfl rfl hl.1 rfl (lv_room (Nat.le_of_ble_eq_true rfl)) d_M_effective_28 ⟨Nat.le_of_ble_eq_true rfl, Nat.le_of_ble_eq_true rfl⟩) hP hD hS hA [0, 1] [] rfl rfl (by decide) (by decide) [0, 1] (by decide) (fun _ => rfl) (fun r28 u28 H locs hw hP hD hS => ?_)
      have hP : va_P (dC, dI) classes (WS_M_effective cI cL cZ h0 a_currency a_sort a_closing a_average a_held a_sum a_told a_left a_step a_outside a_item 0 v_companies v_accounts v_done v_items v_held) H := hP
      have hD : va_D A (WS_M_effective cI cL cZ h0 a_currency a_sort a_closing a_average a_held a_sum a_told a_left a_step a_outside a_item 0 v_companies v_accounts v_done v_items v_held) := hD
      refine lv_ldc2 (v := 1000000000000) hx hb hown (hts _ (kx_w iw_577)) d_M_effective_31 ?_
      refine lv_lmul hx hb d_M_effective_34 ?_
      refine lv_aload_n hx hb d_M_effective_35 rfl (lv_at hl 0 rfl) ?_
      refine lv_iconst (v := 2) hx hb d_M_effective_36 (by decide) ?_
      refine lv_iload_n hx hb d_M_effective_37 rfl (lv_at hl 1 rfl) ?_
      refine kx_calll (ws' := fun u38 => (WS_M_effective cI cL cZ h0 a_currency a_sort a_closing a_average a_held a_sum a_told a_left a_step a_outside a_item 0 v_companies v_accounts v_done v_items v_held)) (va_runV (As := [.int 2, .int p0]) (rest := [.long (r28 * 1000000000000)]) ⟨hx, hb, hml, hown, hts⟩ (c_M_weight l dC dI cI cL cZ h0 a_currency a_sort a_closing a_average a_held a_sum a_told a_left a_step a_outside a_item 0 v_companies v_accounts v_done v_items v_held H.size 2 p0 hw) ⟨(callB_of 2 hts (kx_good iw_608) rfl rfl rfl (hts _ (kx_w iw_4)) (hts _ (kx_w iw_605)) (by decide +kernel) ⟨Nat.le_of_ble_eq_true rfl, Nat.le_of_ble_eq_true rfl⟩), (hts _ (kx_w iw_607)), (hts _ (kx_w sl_M_weight))⟩ (kx_preV hN hK hP hD [0, 1] (by decide) rfl 0 rfl rfl) rfl rfl hl.1 rfl (lv_room (Nat.le_of_ble_eq_true rfl)) d_M_effective_38 ⟨Nat.le_of_ble_eq_true rfl, Nat.le_of_ble_eq_true rfl⟩) hP hD hS hA [0, 1] [] rfl rfl (by decide) (by decide) [0, 1] (by decide) (fun _ => rfl) (fun r38 u38 H locs hw hP hD hS => ?_)
      have hP : va_P (dC, dI) classes (WS_M_effective cI cL cZ h0 a_currency a_sort a_closing a_average a_held a_sum a_told a_left a_step a_outside a_item 0 v_companies v_accounts v_done v_items v_held) H := hP
      have hD : va_D A (WS_M_effective cI cL cZ h0 a_currency a_sort a_closing a_average a_held a_sum a_told a_left a_step a_outside a_item 0 v_companies v_accounts v_done v_items v_held) := hD
      refine lv_ldc2 (v := 100000000) hx hb hown (hts _ (kx_w iw_609)) d_M_effective_41 ?_
      refine lv_lmul hx hb d_M_effective_44 ?_
      refine lv_ladd hx hb d_M_effective_45 ?_
      refine lv_aload_n hx hb d_M_effective_46 rfl (lv_at hl 0 rfl) ?_
      refine lv_iconst (v := 3) hx hb d_M_effective_47 (by decide) ?_
      refine lv_iload_n hx hb d_M_effective_48 rfl (lv_at hl 1 rfl) ?_
      refine kx_calll (ws' := fun u49 => (WS_M_effective cI cL cZ h0 a_currency a_sort a_closing a_average a_held a_sum a_told a_left a_step a_outside a_item 0 v_companies v_accounts v_done v_items v_held)) (va_runV (As := [.int 3, .int p0]) (rest := [.long ((r28 * 1000000000000) + (r38 * 100000000))]) ⟨hx, hb, hml, hown, hts⟩ (c_M_weight l dC dI cI cL cZ h0 a_currency a_sort a_closing a_average a_held a_sum a_told a_left a_step a_outside a_item 0 v_companies v_accounts v_done v_items v_held H.size 3 p0 hw) ⟨(callB_of 2 hts (kx_good iw_608) rfl rfl rfl (hts _ (kx_w iw_4)) (hts _ (kx_w iw_605)) (by decide +kernel) ⟨Nat.le_of_ble_eq_true rfl, Nat.le_of_ble_eq_true rfl⟩), (hts _ (kx_w iw_607)), (hts _ (kx_w sl_M_weight))⟩ (kx_preV hN hK hP hD [0, 1] (by decide) rfl 0 rfl rfl) rfl rfl hl.1 rfl (lv_room (Nat.le_of_ble_eq_true rfl)) d_M_effective_49 ⟨Nat.le_of_ble_eq_true rfl, Nat.le_of_ble_eq_true rfl⟩) hP hD hS hA [0, 1] [] rfl rfl (by decide) (by decide) [0, 1] (by decide) (fun _ => rfl) (fun r49 u49 H locs hw hP hD hS => ?_)
      have hP : va_P (dC, dI) classes (WS_M_effective cI cL cZ h0 a_currency a_sort a_closing a_average a_held a_sum a_told a_left a_step a_outside a_item 0 v_companies v_accounts v_done v_items v_held) H := hP
      have hD : va_D A (WS_M_effective cI cL cZ h0 a_currency a_sort a_closing a_average a_held a_sum a_told a_left a_step a_outside a_item 0 v_companies v_accounts v_done v_items v_held) := hD
      refine lv_ldc2 (v := 10000) hx hb hown (hts _ (kx_w iw_610)) d_M_effective_52 ?_
      refine lv_lmul hx hb d_M_effective_55 ?_
      refine lv_ladd hx hb d_M_effective_56 ?_
      refine lv_aload_n hx hb d_M_effective_57 rfl (lv_at hl 0 rfl) ?_
      refine lv_iconst (v := 4) hx hb d_M_effective_58 (by decide) ?_
      refine lv_iload_n hx hb d_M_effective_59 rfl (lv_at hl 1 rfl) ?_
      refine kx_calll (ws' := fun u60 => (WS_M_effective cI cL cZ h0 a_currency a_sort a_closing a_average a_held a_sum a_told a_left a_step a_outside a_item 0 v_companies v_accounts v_done v_items v_held)) (va_runV (As := [.int 4, .int p0]) (rest := [.long (((r28 * 1000000000000) + (r38 * 100000000)) + (r49 * 10000))]) ⟨hx, hb, hml, hown, hts⟩ (c_M_weight l dC dI cI cL cZ h0 a_currency a_sort a_closing a_average a_held a_sum a_told a_left a_step a_outside a_item 0 v_companies v_accounts v_done v_items v_held H.size 4 p0 hw) ⟨(callB_of 2 hts (kx_good iw_608) rfl rfl rfl (hts _ (kx_w iw_4)) (hts _ (kx_w iw_605)) (by decide +kernel) ⟨Nat.le_of_ble_eq_true rfl, Nat.le_of_ble_eq_true rfl⟩), (hts _ (kx_w iw_607)), (hts _ (kx_w sl_M_weight))⟩ (kx_preV hN hK hP hD [0, 1] (by decide) rfl 0 rfl rfl) rfl rfl hl.1 rfl (lv_room (Nat.le_of_ble_eq_true rfl)) d_M_effective_60 ⟨Nat.le_of_ble_eq_true rfl, Nat.le_of_ble_eq_true rfl⟩) hP hD hS hA [0, 1] [] rfl rfl (by decide) (by decide) [0, 1] (by decide) (fun _ => rfl) (fun r60 u60 H locs hw hP hD hS => ?_)
      have hP : va_P (dC, dI) classes (WS_M_effective cI cL cZ h0 a_currency a_sort a_closing a_average a_held a_sum a_told a_left a_step a_outside a_item 0 v_companies v_accounts v_done v_items v_held) H := hP
      have hD : va_D A (WS_M_effective cI cL cZ h0 a_currency a_sort a_closing a_average a_held a_sum a_told a_left a_step a_outside a_item 0 v_companies v_accounts v_done v_items v_held) := hD
      refine lv_ladd hx hb d_M_effective_63 ?_
      exact W.lret (v := ((((r28 * 1000000000000) + (r38 * 100000000)) + (r49 * 10000)) + r60)) hx hb hr (fun t ht hW => ⟨⟨((((r28 * 1000000000000) + (r38 * 100000000)) + (r49 * 10000)) + r60), 0, rfl, hw, ⟨by rw [ht]; exact hP, hD⟩⟩, hS.F ht⟩) hS.2.2 d_M_effective_64
    ·
      have hw := hw.2 hc
      refine lv_ldc2 (v := 10000000000000000) hx hb hown (hts _ (kx_w iw_604)) d_M_effective_21 ?_
      exact W.lret (v := 10000000000000000) hx hb hr (fun t ht hW => ⟨⟨10000000000000000, 0, rfl, hw, ⟨by rw [ht]; exact hP, hD⟩⟩, hS.F ht⟩) hS.2.2 d_M_effective_24
  ·
    have hw := hw.2 hc
    refine lv_ldc2 (v := (-1)) hx hb hown (hts _ (kx_w iw_603)) d_M_effective_13 ?_
    exact W.lret (v := (-1)) hx hb hr (fun t ht hW => ⟨⟨(-1), 0, rfl, hw, ⟨by rw [ht]; exact hP, hD⟩⟩, hS.F ht⟩) hS.2.2 d_M_effective_16
/-! ConsolidationDeskModel.translated(JI)J -/
abbrev y_M_translated : MethodName := ⟨"ConsolidationDeskModel", "translated", "(JI)J"⟩
theorem d_M_translated_0 : decode prog_5_method_22_code 0 = .ok (.lload_n 0, 1) := by decide +kernel
theorem d_M_translated_1 : decode prog_5_method_22_code 1 = .ok (.invokestatic 83, 3) := by decide +kernel
theorem d_M_translated_4 : decode prog_5_method_22_code 4 = .ok (.lstore_n 3, 1) := by decide +kernel
theorem d_M_translated_5 : decode prog_5_method_22_code 5 = .ok (.lload_n 3, 1) := by decide +kernel
theorem d_M_translated_6 : decode prog_5_method_22_code 6 = .ok (.ldc2_w 106, 3) := by decide +kernel
theorem d_M_translated_9 : decode prog_5_method_22_code 9 = .ok (.lrem, 1) := by decide +kernel
theorem d_M_translated_10 : decode prog_5_method_22_code 10 = .ok (.iload_n 2, 1) := by decide +kernel
theorem d_M_translated_11 : decode prog_5_method_22_code 11 = .ok (.i2l, 1) := by decide +kernel
theorem d_M_translated_12 : decode prog_5_method_22_code 12 = .ok (.lmul, 1) := by decide +kernel
theorem d_M_translated_13 : decode prog_5_method_22_code 13 = .ok (.lstore 5, 2) := by decide +kernel
theorem d_M_translated_15 : decode prog_5_method_22_code 15 = .ok (.lload_n 3, 1) := by decide +kernel
theorem d_M_translated_16 : decode prog_5_method_22_code 16 = .ok (.ldc2_w 106, 3) := by decide +kernel
theorem d_M_translated_19 : decode prog_5_method_22_code 19 = .ok (.ldiv, 1) := by decide +kernel
theorem d_M_translated_20 : decode prog_5_method_22_code 20 = .ok (.iload_n 2, 1) := by decide +kernel
theorem d_M_translated_21 : decode prog_5_method_22_code 21 = .ok (.i2l, 1) := by decide +kernel
theorem d_M_translated_22 : decode prog_5_method_22_code 22 = .ok (.lmul, 1) := by decide +kernel
theorem d_M_translated_23 : decode prog_5_method_22_code 23 = .ok (.lload 5, 2) := by decide +kernel
theorem d_M_translated_25 : decode prog_5_method_22_code 25 = .ok (.ldc2_w 106, 3) := by decide +kernel
theorem d_M_translated_28 : decode prog_5_method_22_code 28 = .ok (.ldiv, 1) := by decide +kernel
theorem d_M_translated_29 : decode prog_5_method_22_code 29 = .ok (.ladd, 1) := by decide +kernel
theorem d_M_translated_30 : decode prog_5_method_22_code 30 = .ok (.lload 5, 2) := by decide +kernel
theorem d_M_translated_32 : decode prog_5_method_22_code 32 = .ok (.ldc2_w 106, 3) := by decide +kernel
theorem d_M_translated_35 : decode prog_5_method_22_code 35 = .ok (.lrem, 1) := by decide +kernel
theorem d_M_translated_36 : decode prog_5_method_22_code 36 = .ok (.ldc2_w 108, 3) := by decide +kernel
theorem d_M_translated_39 : decode prog_5_method_22_code 39 = .ok (.lcmp, 1) := by decide +kernel
theorem d_M_translated_40 : decode prog_5_method_22_code 40 = .ok (.ifCond .lt 7, 3) := by decide +kernel
theorem d_M_translated_43 : decode prog_5_method_22_code 43 = .ok (.lconst 1, 1) := by decide +kernel
theorem d_M_translated_44 : decode prog_5_method_22_code 44 = .ok (.goto 4, 3) := by decide +kernel
theorem d_M_translated_47 : decode prog_5_method_22_code 47 = .ok (.lconst 0, 1) := by decide +kernel
theorem d_M_translated_48 : decode prog_5_method_22_code 48 = .ok (.ladd, 1) := by decide +kernel
theorem d_M_translated_49 : decode prog_5_method_22_code 49 = .ok (.lstore 7, 2) := by decide +kernel
theorem d_M_translated_51 : decode prog_5_method_22_code 51 = .ok (.lload_n 0, 1) := by decide +kernel
theorem d_M_translated_52 : decode prog_5_method_22_code 52 = .ok (.lconst 0, 1) := by decide +kernel
theorem d_M_translated_53 : decode prog_5_method_22_code 53 = .ok (.lcmp, 1) := by decide +kernel
theorem d_M_translated_54 : decode prog_5_method_22_code 54 = .ok (.ifCond .ge 9, 3) := by decide +kernel
theorem d_M_translated_57 : decode prog_5_method_22_code 57 = .ok (.lload 7, 2) := by decide +kernel
theorem d_M_translated_59 : decode prog_5_method_22_code 59 = .ok (.lneg, 1) := by decide +kernel
theorem d_M_translated_60 : decode prog_5_method_22_code 60 = .ok (.goto 5, 3) := by decide +kernel
theorem d_M_translated_63 : decode prog_5_method_22_code 63 = .ok (.lload 7, 2) := by decide +kernel
theorem d_M_translated_65 : decode prog_5_method_22_code 65 = .ok (.lreturn, 1) := by decide +kernel
abbrev WS_M_translated (cI cL cZ : ClassId)    : va_W := []
def wp_M_translated  (p0 : Int64) (p1 : Int32)  (post : Int64 → Unit → Prop) : Prop := (wp_M_size p0 (fun (r1 : Int64) (u1 : Unit) => (∀ x13 : Int64, x13 = ((r1 - r1 / 1000000 * 1000000) * p1.toInt64) → (((x13 - x13 / 1000000 * 1000000) < 500000 → (∀ x49 : Int64, x49 = ((((r1 / 1000000) * p1.toInt64) + (x13 / 1000000)) + 0) → ((0 ≤ p0 → post x49 ()) ∧ (¬ 0 ≤ p0 → post (-x49) ())))) ∧ (¬ (x13 - x13 / 1000000 * 1000000) < 500000 → (∀ x49 : Int64, x49 = ((((r1 / 1000000) * p1.toInt64) + (x13 / 1000000)) + 1) → ((0 ≤ p0 → post x49 ()) ∧ (¬ 0 ≤ p0 → post (-x49) ()))))))))
abbrev ws_M_translated : List Cond := .code y_M_translated prog_5_method_22_code 9 (some .long) :: kxW
abbrev rm_M_translated : Room := { frames := 1, cells := 0, slots := 0, locals := 21 }
abbrev QC_M_translated (dC : Nat → ClassId) (dI : Nat → Nat → Nat) (cI cL cZ : ClassId) (A : Nat → Prop)    (post : Int64 → Unit → Prop) : Array Value → State → Outcome → State → Prop := va_Ql post (fun (u : Unit) t => kx_B (dC, dI) classes A (WS_M_translated cI cL cZ ) t) A
set_option maxHeartbeats 4000000 in
set_option maxRecDepth 100000 in
theorem c_M_translated (l : Launch) (dC : Nat → ClassId) (dI : Nat → Nat → Nat) (cI cL cZ : ClassId)    (sz : Nat) (p0 : Int64) (p1 : Int32) {post : Int64 → Unit → Prop} (hw : wp_M_translated p0 p1 post) : Met l y_M_translated ws_M_translated rm_M_translated (kx_Pc (dC, dI) classes (kx_T cI cL cZ) (WS_M_translated cI cL cZ ) sz [.long p0, .int p1]) (QC_M_translated dC dI cI cL cZ (va_A (WS_M_translated cI cL cZ ) sz)  post) 0 0 (va_A (WS_M_translated cI cL cZ ) sz) := by
  refine Met.ofW (cc := prog_5_method_22_code) (maxL := 9) (ret := (some .long)) (by decide) rfl ?_
  intro p e s m args below meth c s₁ B hml hv
  obtain ⟨rfl, hsz, hP, hK, hD0, hN⟩ := hv
  have hx := B.exec
  have hb := B.bytes
  have hr := B.returns
  have hts := atoms_spec (ws := ws_M_translated) B.pre
  have hown : s.vm.findClass R_M = some m.cls := findClass_of_methodNamed B.named
  have hlocks := B.notSynchronized
  subst hsz
  have hD := hD0.self (sz := s.heap.size)
  generalize hAe : va_A (WS_M_translated cI cL cZ ) s.heap.size = A at hD ⊢
  have hA : ∀ q : Nat, s.heap.size ≤ q → A q := fun q h => by rw [← hAe]; exact Or.inr h
  have hS : va_S A s.heap s.heap [] := va_S.rf
  have hP : va_P (dC, dI) classes (WS_M_translated cI cL cZ ) s.heap := hP
  have hl := lv_entry ([.long p0, .int p1]) (n := 9) (Nat.le_of_ble_eq_true rfl)
  rw [lg_entry_eq]
  generalize (lg_sl ([.long p0, .int p1]) ++ List.replicate (9 - (lg_sl ([.long p0, .int p1])).length) Slot.unset).toArray = ls at hl ⊢
  have hl : lv_has ls 9 [(0, .long p0), (2, .int p1)] := hl
  unfold wp_M_translated at hw
  refine (show ∀ (H : Heap) (locs : List Loc), va_P (dC, dI) classes (WS_M_translated cI cL cZ ) H → va_S A s.heap H locs → W p l e (headSpec ws_M_translated rm_M_translated).room s m ([.long p0, .int p1] : List Value).toArray below meth c H locs 0 0 (MQ below (QC_M_translated dC dI cI cL cZ A post) ([.long p0, .int p1] : List Value).toArray s 0 0 A) (F0 m 0 ls []) from ?_) _ _ hP hS
  intro H locs hP hS
  refine lv_lload_n hx hb d_M_translated_0 rfl (lv_at hl 0 rfl) ?_
  refine kx_calll (ws' := fun u1 => (WS_M_translated cI cL cZ)) (va_runS (As := [.long p0]) (rest := []) ⟨hx, hb, hml, hown, hts⟩ (c_M_size l dC dI cI cL cZ  H.size p0 hw) ⟨(callB_of 1 hts (kx_good iw_576) rfl rfl rfl (hts _ (kx_w iw_4)) (hts _ (kx_w iw_574)) (by decide +kernel) ⟨Nat.le_of_ble_eq_true rfl, Nat.le_of_ble_eq_true rfl⟩), (hts _ (kx_w iw_575))⟩ (kx_preS hN hK hP hD [] (by decide) rfl) rfl rfl hl.1 rfl (lv_room (Nat.le_of_ble_eq_true rfl)) d_M_translated_1 ⟨Nat.le_of_ble_eq_true rfl, Nat.le_of_ble_eq_true rfl⟩) hP hD hS hA [] [] rfl rfl (by decide) (by decide) [] (by decide) (fun _ => rfl) (fun r1 u1 H locs hw hP hD hS => ?_)
  have hP : va_P (dC, dI) classes (WS_M_translated cI cL cZ) H := hP
  have hD : va_D A (WS_M_translated cI cL cZ) := hD
  refine lv_lstore_n (lv' := [(3, .long r1), (0, .long p0), (2, .int p1)]) hx hb d_M_translated_4 rfl hl (by decide) rfl (fun ls hl => ?_)
  refine lv_lload_n hx hb d_M_translated_5 rfl (lv_at hl 0 rfl) ?_
  refine lv_ldc2 (v := 1000000) hx hb hown (hts _ (kx_w iw_623)) d_M_translated_6 ?_
  refine lv_lrem hx hb d_M_translated_9 (by decide) ?_
  refine lv_iload_n hx hb d_M_translated_10 rfl (lv_at hl 2 rfl) ?_
  refine lv_i2l hx hb d_M_translated_11 rfl ?_
  refine lv_lmul hx hb d_M_translated_12 ?_
  refine lv_topl (fun x13 e13 => ?_)
  have hw := hw x13 e13
  refine lv_lstore (lv' := [(5, .long x13), (3, .long r1), (0, .long p0), (2, .int p1)]) hx hb d_M_translated_13 hl (by decide) rfl (fun ls hl => ?_)
  refine lv_lload_n hx hb d_M_translated_15 rfl (lv_at hl 1 rfl) ?_
  refine lv_ldc2 (v := 1000000) hx hb hown (hts _ (kx_w iw_623)) d_M_translated_16 ?_
  refine lv_ldiv hx hb d_M_translated_19 (by decide) ?_
  refine lv_iload_n hx hb d_M_translated_20 rfl (lv_at hl 3 rfl) ?_
  refine lv_i2l hx hb d_M_translated_21 rfl ?_
  refine lv_lmul hx hb d_M_translated_22 ?_
  refine lv_lload hx hb d_M_translated_23 (lv_at hl 0 rfl) ?_
  refine lv_ldc2 (v := 1000000) hx hb hown (hts _ (kx_w iw_623)) d_M_translated_25 ?_
  refine lv_ldiv hx hb d_M_translated_28 (by decide) ?_
  refine lv_ladd hx hb d_M_translated_29 ?_
  refine lv_lload hx hb d_M_translated_30 (lv_at hl 0 rfl) ?_
  refine lv_ldc2 (v := 1000000) hx hb hown (hts _ (kx_w iw_623)) d_M_translated_32 ?_
  refine lv_lrem hx hb d_M_translated_35 (by decide) ?_
  refine lv_ldc2 (v := 500000) hx hb hown (hts _ (kx_w iw_624)) d_M_translated_36 ?_
  refine W.lcmp hx hb d_M_translated_39 ?_
  refine lv_if_lt (tgt := 47) hx hb d_M_translated_40 rfl (fun hc => ?_) (fun hc => ?_)
  ·
    have hc := (lc_lt _ _).mp hc
    have hw := hw.1 hc
    refine lv_lconst (v := 0) hx hb d_M_translated_47 (by decide) ?_
    refine lv_ladd hx hb d_M_translated_48 ?_
    refine lv_topl (fun x49 e49 => ?_)
    have hw := hw x49 e49
    refine lv_lstore (lv' := [(7, .long x49), (5, .long x13), (3, .long r1), (0, .long p0), (2, .int p1)]) hx hb d_M_translated_49 hl (by decide) rfl (fun ls hl => ?_)
    refine lv_lload_n hx hb d_M_translated_51 rfl (lv_at hl 3 rfl) ?_
    refine lv_lconst (v := 0) hx hb d_M_translated_52 (by decide) ?_
    refine W.lcmp hx hb d_M_translated_53 ?_
    refine lv_if_ge (tgt := 63) hx hb d_M_translated_54 rfl (fun hc => ?_) (fun hc => ?_)
    ·
      have hc := (lc_ge _ _).mp hc
      have hw := hw.1 hc
      refine lv_lload hx hb d_M_translated_63 (lv_at hl 0 rfl) ?_
      exact W.lret (v := x49) hx hb hr (fun t ht hW => ⟨⟨x49, (), rfl, hw, ⟨by rw [ht]; exact hP, hD⟩⟩, hS.F ht⟩) hS.2.2 d_M_translated_65
    ·
      have hc := mt (lc_ge _ _).mpr hc
      have hw := hw.2 hc
      refine lv_lload hx hb d_M_translated_57 (lv_at hl 0 rfl) ?_
      refine lv_lneg hx hb d_M_translated_59 ?_
      refine lv_goto (tgt := 65) hx hb d_M_translated_60 rfl ?_
      exact W.lret (v := (-x49)) hx hb hr (fun t ht hW => ⟨⟨(-x49), (), rfl, hw, ⟨by rw [ht]; exact hP, hD⟩⟩, hS.F ht⟩) hS.2.2 d_M_translated_65
  ·
    have hc := mt (lc_lt _ _).mpr hc
    have hw := hw.2 hc
    refine lv_lconst (v := 1) hx hb d_M_translated_43 (by decide) ?_
    refine lv_goto (tgt := 48) hx hb d_M_translated_44 rfl ?_
    refine lv_ladd hx hb d_M_translated_48 ?_
    refine lv_topl (fun x49 e49 => ?_)
    have hw := hw x49 e49
    refine lv_lstore (lv' := [(7, .long x49), (5, .long x13), (3, .long r1), (0, .long p0), (2, .int p1)]) hx hb d_M_translated_49 hl (by decide) rfl (fun ls hl => ?_)
    refine lv_lload_n hx hb d_M_translated_51 rfl (lv_at hl 3 rfl) ?_
    refine lv_lconst (v := 0) hx hb d_M_translated_52 (by decide) ?_
    refine W.lcmp hx hb d_M_translated_53 ?_
    refine lv_if_ge (tgt := 63) hx hb d_M_translated_54 rfl (fun hc => ?_) (fun hc => ?_)
    ·
      have hc := (lc_ge _ _).mp hc
      have hw := hw.1 hc
      refine lv_lload hx hb d_M_translated_63 (lv_at hl 0 rfl) ?_
      exact W.lret (v := x49) hx hb hr (fun t ht hW => ⟨⟨x49, (), rfl, hw, ⟨by rw [ht]; exact hP, hD⟩⟩, hS.F ht⟩) hS.2.2 d_M_translated_65
    ·
      have hc := mt (lc_ge _ _).mpr hc
      have hw := hw.2 hc
      refine lv_lload hx hb d_M_translated_57 (lv_at hl 0 rfl) ?_
      refine lv_lneg hx hb d_M_translated_59 ?_
      refine lv_goto (tgt := 65) hx hb d_M_translated_60 rfl ?_
      exact W.lret (v := (-x49)) hx hb hr (fun t ht hW => ⟨⟨(-x49), (), rfl, hw, ⟨by rw [ht]; exact hP, hD⟩⟩, hS.F ht⟩) hS.2.2 d_M_translated_65
/-! ConsolidationDeskModel.part(JJ)J -/
abbrev y_M_part : MethodName := ⟨"ConsolidationDeskModel", "part", "(JJ)J"⟩
theorem d_M_part_0 : decode prog_5_method_23_code 0 = .ok (.lload_n 0, 1) := by decide +kernel
theorem d_M_part_1 : decode prog_5_method_23_code 1 = .ok (.invokestatic 83, 3) := by decide +kernel
theorem d_M_part_4 : decode prog_5_method_23_code 4 = .ok (.lstore 4, 2) := by decide +kernel
theorem d_M_part_6 : decode prog_5_method_23_code 6 = .ok (.lload 4, 2) := by decide +kernel
theorem d_M_part_8 : decode prog_5_method_23_code 8 = .ok (.ldc2_w 102, 3) := by decide +kernel
theorem d_M_part_11 : decode prog_5_method_23_code 11 = .ok (.lrem, 1) := by decide +kernel
theorem d_M_part_12 : decode prog_5_method_23_code 12 = .ok (.lstore 6, 2) := by decide +kernel
theorem d_M_part_14 : decode prog_5_method_23_code 14 = .ok (.lload 4, 2) := by decide +kernel
theorem d_M_part_16 : decode prog_5_method_23_code 16 = .ok (.ldc2_w 102, 3) := by decide +kernel
theorem d_M_part_19 : decode prog_5_method_23_code 19 = .ok (.ldiv, 1) := by decide +kernel
theorem d_M_part_20 : decode prog_5_method_23_code 20 = .ok (.ldc2_w 102, 3) := by decide +kernel
theorem d_M_part_23 : decode prog_5_method_23_code 23 = .ok (.lrem, 1) := by decide +kernel
theorem d_M_part_24 : decode prog_5_method_23_code 24 = .ok (.lstore 8, 2) := by decide +kernel
theorem d_M_part_26 : decode prog_5_method_23_code 26 = .ok (.lload 4, 2) := by decide +kernel
theorem d_M_part_28 : decode prog_5_method_23_code 28 = .ok (.ldc2_w 102, 3) := by decide +kernel
theorem d_M_part_31 : decode prog_5_method_23_code 31 = .ok (.ldiv, 1) := by decide +kernel
theorem d_M_part_32 : decode prog_5_method_23_code 32 = .ok (.ldc2_w 102, 3) := by decide +kernel
theorem d_M_part_35 : decode prog_5_method_23_code 35 = .ok (.ldiv, 1) := by decide +kernel
theorem d_M_part_36 : decode prog_5_method_23_code 36 = .ok (.lstore 10, 2) := by decide +kernel
theorem d_M_part_38 : decode prog_5_method_23_code 38 = .ok (.lload_n 2, 1) := by decide +kernel
theorem d_M_part_39 : decode prog_5_method_23_code 39 = .ok (.ldc2_w 102, 3) := by decide +kernel
theorem d_M_part_42 : decode prog_5_method_23_code 42 = .ok (.lrem, 1) := by decide +kernel
theorem d_M_part_43 : decode prog_5_method_23_code 43 = .ok (.lstore 12, 2) := by decide +kernel
theorem d_M_part_45 : decode prog_5_method_23_code 45 = .ok (.lload_n 2, 1) := by decide +kernel
theorem d_M_part_46 : decode prog_5_method_23_code 46 = .ok (.ldc2_w 102, 3) := by decide +kernel
theorem d_M_part_49 : decode prog_5_method_23_code 49 = .ok (.ldiv, 1) := by decide +kernel
theorem d_M_part_50 : decode prog_5_method_23_code 50 = .ok (.lstore 14, 2) := by decide +kernel
theorem d_M_part_52 : decode prog_5_method_23_code 52 = .ok (.lload 6, 2) := by decide +kernel
theorem d_M_part_54 : decode prog_5_method_23_code 54 = .ok (.lload 12, 2) := by decide +kernel
theorem d_M_part_56 : decode prog_5_method_23_code 56 = .ok (.lmul, 1) := by decide +kernel
theorem d_M_part_57 : decode prog_5_method_23_code 57 = .ok (.lstore 16, 2) := by decide +kernel
theorem d_M_part_59 : decode prog_5_method_23_code 59 = .ok (.lload 8, 2) := by decide +kernel
theorem d_M_part_61 : decode prog_5_method_23_code 61 = .ok (.lload 12, 2) := by decide +kernel
theorem d_M_part_63 : decode prog_5_method_23_code 63 = .ok (.lmul, 1) := by decide +kernel
theorem d_M_part_64 : decode prog_5_method_23_code 64 = .ok (.lload 16, 2) := by decide +kernel
theorem d_M_part_66 : decode prog_5_method_23_code 66 = .ok (.ldc2_w 102, 3) := by decide +kernel
theorem d_M_part_69 : decode prog_5_method_23_code 69 = .ok (.ldiv, 1) := by decide +kernel
theorem d_M_part_70 : decode prog_5_method_23_code 70 = .ok (.ladd, 1) := by decide +kernel
theorem d_M_part_71 : decode prog_5_method_23_code 71 = .ok (.lstore 18, 2) := by decide +kernel
theorem d_M_part_73 : decode prog_5_method_23_code 73 = .ok (.lload 6, 2) := by decide +kernel
theorem d_M_part_75 : decode prog_5_method_23_code 75 = .ok (.lload 14, 2) := by decide +kernel
theorem d_M_part_77 : decode prog_5_method_23_code 77 = .ok (.lmul, 1) := by decide +kernel
theorem d_M_part_78 : decode prog_5_method_23_code 78 = .ok (.lload 18, 2) := by decide +kernel
theorem d_M_part_80 : decode prog_5_method_23_code 80 = .ok (.ldc2_w 102, 3) := by decide +kernel
theorem d_M_part_83 : decode prog_5_method_23_code 83 = .ok (.lrem, 1) := by decide +kernel
theorem d_M_part_84 : decode prog_5_method_23_code 84 = .ok (.ladd, 1) := by decide +kernel
theorem d_M_part_85 : decode prog_5_method_23_code 85 = .ok (.lstore 20, 2) := by decide +kernel
theorem d_M_part_87 : decode prog_5_method_23_code 87 = .ok (.lload 10, 2) := by decide +kernel
theorem d_M_part_89 : decode prog_5_method_23_code 89 = .ok (.lload 12, 2) := by decide +kernel
theorem d_M_part_91 : decode prog_5_method_23_code 91 = .ok (.lmul, 1) := by decide +kernel
theorem d_M_part_92 : decode prog_5_method_23_code 92 = .ok (.lload 18, 2) := by decide +kernel
theorem d_M_part_94 : decode prog_5_method_23_code 94 = .ok (.ldc2_w 102, 3) := by decide +kernel
theorem d_M_part_97 : decode prog_5_method_23_code 97 = .ok (.ldiv, 1) := by decide +kernel
theorem d_M_part_98 : decode prog_5_method_23_code 98 = .ok (.ladd, 1) := by decide +kernel
theorem d_M_part_99 : decode prog_5_method_23_code 99 = .ok (.lload 20, 2) := by decide +kernel
theorem d_M_part_101 : decode prog_5_method_23_code 101 = .ok (.ldc2_w 102, 3) := by decide +kernel
theorem d_M_part_104 : decode prog_5_method_23_code 104 = .ok (.ldiv, 1) := by decide +kernel
theorem d_M_part_105 : decode prog_5_method_23_code 105 = .ok (.ladd, 1) := by decide +kernel
theorem d_M_part_106 : decode prog_5_method_23_code 106 = .ok (.lstore 22, 2) := by decide +kernel
theorem d_M_part_108 : decode prog_5_method_23_code 108 = .ok (.lload 8, 2) := by decide +kernel
theorem d_M_part_110 : decode prog_5_method_23_code 110 = .ok (.lload 14, 2) := by decide +kernel
theorem d_M_part_112 : decode prog_5_method_23_code 112 = .ok (.lmul, 1) := by decide +kernel
theorem d_M_part_113 : decode prog_5_method_23_code 113 = .ok (.lload 22, 2) := by decide +kernel
theorem d_M_part_115 : decode prog_5_method_23_code 115 = .ok (.ladd, 1) := by decide +kernel
theorem d_M_part_116 : decode prog_5_method_23_code 116 = .ok (.lstore 24, 2) := by decide +kernel
theorem d_M_part_118 : decode prog_5_method_23_code 118 = .ok (.lload 20, 2) := by decide +kernel
theorem d_M_part_120 : decode prog_5_method_23_code 120 = .ok (.ldc2_w 102, 3) := by decide +kernel
theorem d_M_part_123 : decode prog_5_method_23_code 123 = .ok (.lrem, 1) := by decide +kernel
theorem d_M_part_124 : decode prog_5_method_23_code 124 = .ok (.ldc2_w 102, 3) := by decide +kernel
theorem d_M_part_127 : decode prog_5_method_23_code 127 = .ok (.lmul, 1) := by decide +kernel
theorem d_M_part_128 : decode prog_5_method_23_code 128 = .ok (.lload 16, 2) := by decide +kernel
theorem d_M_part_130 : decode prog_5_method_23_code 130 = .ok (.ldc2_w 102, 3) := by decide +kernel
theorem d_M_part_133 : decode prog_5_method_23_code 133 = .ok (.lrem, 1) := by decide +kernel
theorem d_M_part_134 : decode prog_5_method_23_code 134 = .ok (.ladd, 1) := by decide +kernel
theorem d_M_part_135 : decode prog_5_method_23_code 135 = .ok (.lstore 26, 2) := by decide +kernel
theorem d_M_part_137 : decode prog_5_method_23_code 137 = .ok (.lload 24, 2) := by decide +kernel
theorem d_M_part_139 : decode prog_5_method_23_code 139 = .ok (.lload 10, 2) := by decide +kernel
theorem d_M_part_141 : decode prog_5_method_23_code 141 = .ok (.lload 14, 2) := by decide +kernel
theorem d_M_part_143 : decode prog_5_method_23_code 143 = .ok (.lmul, 1) := by decide +kernel
theorem d_M_part_144 : decode prog_5_method_23_code 144 = .ok (.ldc2_w 102, 3) := by decide +kernel
theorem d_M_part_147 : decode prog_5_method_23_code 147 = .ok (.lmul, 1) := by decide +kernel
theorem d_M_part_148 : decode prog_5_method_23_code 148 = .ok (.ladd, 1) := by decide +kernel
theorem d_M_part_149 : decode prog_5_method_23_code 149 = .ok (.lload 26, 2) := by decide +kernel
theorem d_M_part_151 : decode prog_5_method_23_code 151 = .ok (.ldc2_w 110, 3) := by decide +kernel
theorem d_M_part_154 : decode prog_5_method_23_code 154 = .ok (.lcmp, 1) := by decide +kernel
theorem d_M_part_155 : decode prog_5_method_23_code 155 = .ok (.ifCond .lt 7, 3) := by decide +kernel
theorem d_M_part_158 : decode prog_5_method_23_code 158 = .ok (.lconst 1, 1) := by decide +kernel
theorem d_M_part_159 : decode prog_5_method_23_code 159 = .ok (.goto 4, 3) := by decide +kernel
theorem d_M_part_162 : decode prog_5_method_23_code 162 = .ok (.lconst 0, 1) := by decide +kernel
theorem d_M_part_163 : decode prog_5_method_23_code 163 = .ok (.ladd, 1) := by decide +kernel
theorem d_M_part_164 : decode prog_5_method_23_code 164 = .ok (.lstore 28, 2) := by decide +kernel
theorem d_M_part_166 : decode prog_5_method_23_code 166 = .ok (.lload_n 0, 1) := by decide +kernel
theorem d_M_part_167 : decode prog_5_method_23_code 167 = .ok (.lconst 0, 1) := by decide +kernel
theorem d_M_part_168 : decode prog_5_method_23_code 168 = .ok (.lcmp, 1) := by decide +kernel
theorem d_M_part_169 : decode prog_5_method_23_code 169 = .ok (.ifCond .ge 9, 3) := by decide +kernel
theorem d_M_part_172 : decode prog_5_method_23_code 172 = .ok (.lload 28, 2) := by decide +kernel
theorem d_M_part_174 : decode prog_5_method_23_code 174 = .ok (.lneg, 1) := by decide +kernel
theorem d_M_part_175 : decode prog_5_method_23_code 175 = .ok (.goto 5, 3) := by decide +kernel
theorem d_M_part_178 : decode prog_5_method_23_code 178 = .ok (.lload 28, 2) := by decide +kernel
theorem d_M_part_180 : decode prog_5_method_23_code 180 = .ok (.lreturn, 1) := by decide +kernel
abbrev WS_M_part (cI cL cZ : ClassId)    : va_W := []
def wp_M_part  (p0 : Int64) (p1 : Int64)  (post : Int64 → Unit → Prop) : Prop := (wp_M_size p0 (fun (r1 : Int64) (u1 : Unit) => (∀ x12 : Int64, x12 = (r1 - r1 / 100000000 * 100000000) → (∀ x24 : Int64, x24 = ((r1 / 100000000) - (r1 / 100000000) / 100000000 * 100000000) → (∀ x36 : Int64, x36 = ((r1 / 100000000) / 100000000) → (∀ x43 : Int64, x43 = (p1 - p1 / 100000000 * 100000000) → (∀ x50 : Int64, x50 = (p1 / 100000000) → (∀ x57 : Int64, x57 = (x12 * x43) → (∀ x71 : Int64, x71 = ((x24 * x43) + (x57 / 100000000)) → (∀ x85 : Int64, x85 = ((x12 * x50) + (x71 - x71 / 100000000 * 100000000)) → (∀ x106 : Int64, x106 = (((x36 * x43) + (x71 / 100000000)) + (x85 / 100000000)) → (∀ x116 : Int64, x116 = ((x24 * x50) + x106) → (∀ x135 : Int64, x135 = (((x85 - x85 / 100000000 * 100000000) * 100000000) + (x57 - x57 / 100000000 * 100000000)) → ((x135 < 5000000000000000 → (∀ x164 : Int64, x164 = ((x116 + ((x36 * x50) * 100000000)) + 0) → ((0 ≤ p0 → post x164 ()) ∧ (¬ 0 ≤ p0 → post (-x164) ())))) ∧ (¬ x135 < 5000000000000000 → (∀ x164 : Int64, x164 = ((x116 + ((x36 * x50) * 100000000)) + 1) → ((0 ≤ p0 → post x164 ()) ∧ (¬ 0 ≤ p0 → post (-x164) ()))))))))))))))))))
abbrev ws_M_part : List Cond := .code y_M_part prog_5_method_23_code 30 (some .long) :: kxW
abbrev rm_M_part : Room := { frames := 1, cells := 0, slots := 0, locals := 21 }
abbrev QC_M_part (dC : Nat → ClassId) (dI : Nat → Nat → Nat) (cI cL cZ : ClassId) (A : Nat → Prop)    (post : Int64 → Unit → Prop) : Array Value → State → Outcome → State → Prop := va_Ql post (fun (u : Unit) t => kx_B (dC, dI) classes A (WS_M_part cI cL cZ ) t) A
set_option maxHeartbeats 4000000 in
set_option maxRecDepth 100000 in
theorem c_M_part (l : Launch) (dC : Nat → ClassId) (dI : Nat → Nat → Nat) (cI cL cZ : ClassId)    (sz : Nat) (p0 : Int64) (p1 : Int64) {post : Int64 → Unit → Prop} (hw : wp_M_part p0 p1 post) : Met l y_M_part ws_M_part rm_M_part (kx_Pc (dC, dI) classes (kx_T cI cL cZ) (WS_M_part cI cL cZ ) sz [.long p0, .long p1]) (QC_M_part dC dI cI cL cZ (va_A (WS_M_part cI cL cZ ) sz)  post) 0 0 (va_A (WS_M_part cI cL cZ ) sz) := by
  refine Met.ofW (cc := prog_5_method_23_code) (maxL := 30) (ret := (some .long)) (by decide) rfl ?_
  intro p e s m args below meth c s₁ B hml hv
  obtain ⟨rfl, hsz, hP, hK, hD0, hN⟩ := hv
  have hx := B.exec
  have hb := B.bytes
  have hr := B.returns
  have hts := atoms_spec (ws := ws_M_part) B.pre
  have hown : s.vm.findClass R_M = some m.cls := findClass_of_methodNamed B.named
  have hlocks := B.notSynchronized
  subst hsz
  have hD := hD0.self (sz := s.heap.size)
  generalize hAe : va_A (WS_M_part cI cL cZ ) s.heap.size = A at hD ⊢
  have hA : ∀ q : Nat, s.heap.size ≤ q → A q := fun q h => by rw [← hAe]; exact Or.inr h
  have hS : va_S A s.heap s.heap [] := va_S.rf
  have hP : va_P (dC, dI) classes (WS_M_part cI cL cZ ) s.heap := hP
  have hl := lv_entry ([.long p0, .long p1]) (n := 30) (Nat.le_of_ble_eq_true rfl)
  rw [lg_entry_eq]
  generalize (lg_sl ([.long p0, .long p1]) ++ List.replicate (30 - (lg_sl ([.long p0, .long p1])).length) Slot.unset).toArray = ls at hl ⊢
  have hl : lv_has ls 30 [(0, .long p0), (2, .long p1)] := hl
  unfold wp_M_part at hw
  refine (show ∀ (H : Heap) (locs : List Loc), va_P (dC, dI) classes (WS_M_part cI cL cZ ) H → va_S A s.heap H locs → W p l e (headSpec ws_M_part rm_M_part).room s m ([.long p0, .long p1] : List Value).toArray below meth c H locs 0 0 (MQ below (QC_M_part dC dI cI cL cZ A post) ([.long p0, .long p1] : List Value).toArray s 0 0 A) (F0 m 0 ls []) from ?_) _ _ hP hS
  intro H locs hP hS
  refine lv_lload_n hx hb d_M_part_0 rfl (lv_at hl 0 rfl) ?_
  refine kx_calll (ws' := fun u1 => (WS_M_part cI cL cZ)) (va_runS (As := [.long p0]) (rest := []) ⟨hx, hb, hml, hown, hts⟩ (c_M_size l dC dI cI cL cZ  H.size p0 hw) ⟨(callB_of 1 hts (kx_good iw_576) rfl rfl rfl (hts _ (kx_w iw_4)) (hts _ (kx_w iw_574)) (by decide +kernel) ⟨Nat.le_of_ble_eq_true rfl, Nat.le_of_ble_eq_true rfl⟩), (hts _ (kx_w iw_575))⟩ (kx_preS hN hK hP hD [] (by decide) rfl) rfl rfl hl.1 rfl (lv_room (Nat.le_of_ble_eq_true rfl)) d_M_part_1 ⟨Nat.le_of_ble_eq_true rfl, Nat.le_of_ble_eq_true rfl⟩) hP hD hS hA [] [] rfl rfl (by decide) (by decide) [] (by decide) (fun _ => rfl) (fun r1 u1 H locs hw hP hD hS => ?_)
  have hP : va_P (dC, dI) classes (WS_M_part cI cL cZ) H := hP
  have hD : va_D A (WS_M_part cI cL cZ) := hD
  refine lv_lstore (lv' := [(4, .long r1), (0, .long p0), (2, .long p1)]) hx hb d_M_part_4 hl (by decide) rfl (fun ls hl => ?_)
  refine lv_lload hx hb d_M_part_6 (lv_at hl 0 rfl) ?_
  refine lv_ldc2 (v := 100000000) hx hb hown (hts _ (kx_w iw_609)) d_M_part_8 ?_
  refine lv_lrem hx hb d_M_part_11 (by decide) ?_
  refine lv_topl (fun x12 e12 => ?_)
  have hw := hw x12 e12
  refine lv_lstore (lv' := [(6, .long x12), (4, .long r1), (0, .long p0), (2, .long p1)]) hx hb d_M_part_12 hl (by decide) rfl (fun ls hl => ?_)
  refine lv_lload hx hb d_M_part_14 (lv_at hl 1 rfl) ?_
  refine lv_ldc2 (v := 100000000) hx hb hown (hts _ (kx_w iw_609)) d_M_part_16 ?_
  refine lv_ldiv hx hb d_M_part_19 (by decide) ?_
  refine lv_ldc2 (v := 100000000) hx hb hown (hts _ (kx_w iw_609)) d_M_part_20 ?_
  refine lv_lrem hx hb d_M_part_23 (by decide) ?_
  refine lv_topl (fun x24 e24 => ?_)
  have hw := hw x24 e24
  refine lv_lstore (lv' := [(8, .long x24), (6, .long x12), (4, .long r1), (0, .long p0), (2, .long p1)]) hx hb d_M_part_24 hl (by decide) rfl (fun ls hl => ?_)
  refine lv_lload hx hb d_M_part_26 (lv_at hl 2 rfl) ?_
  refine lv_ldc2 (v := 100000000) hx hb hown (hts _ (kx_w iw_609)) d_M_part_28 ?_
  refine lv_ldiv hx hb d_M_part_31 (by decide) ?_
  refine lv_ldc2 (v := 100000000) hx hb hown (hts _ (kx_w iw_609)) d_M_part_32 ?_
  refine lv_ldiv hx hb d_M_part_35 (by decide) ?_
  refine lv_topl (fun x36 e36 => ?_)
  have hw := hw x36 e36
  refine lv_lstore (lv' := [(10, .long x36), (8, .long x24), (6, .long x12), (4, .long r1), (0, .long p0), (2, .long p1)]) hx hb d_M_part_36 hl (by decide) rfl (fun ls hl => ?_)
  refine lv_lload_n hx hb d_M_part_38 rfl (lv_at hl 5 rfl) ?_
  refine lv_ldc2 (v := 100000000) hx hb hown (hts _ (kx_w iw_609)) d_M_part_39 ?_
  refine lv_lrem hx hb d_M_part_42 (by decide) ?_
  refine lv_topl (fun x43 e43 => ?_)
  have hw := hw x43 e43
  refine lv_lstore (lv' := [(12, .long x43), (10, .long x36), (8, .long x24), (6, .long x12), (4, .long r1), (0, .long p0), (2, .long p1)]) hx hb d_M_part_43 hl (by decide) rfl (fun ls hl => ?_)
  refine lv_lload_n hx hb d_M_part_45 rfl (lv_at hl 6 rfl) ?_
  refine lv_ldc2 (v := 100000000) hx hb hown (hts _ (kx_w iw_609)) d_M_part_46 ?_
  refine lv_ldiv hx hb d_M_part_49 (by decide) ?_
  refine lv_topl (fun x50 e50 => ?_)
  have hw := hw x50 e50
  refine lv_lstore (lv' := [(14, .long x50), (12, .long x43), (10, .long x36), (8, .long x24), (6, .long x12), (4, .long r1), (0, .long p0), (2, .long p1)]) hx hb d_M_part_50 hl (by decide) rfl (fun ls hl => ?_)
  refine lv_lload hx hb d_M_part_52 (lv_at hl 4 rfl) ?_
  refine lv_lload hx hb d_M_part_54 (lv_at hl 1 rfl) ?_
  refine lv_lmul hx hb d_M_part_56 ?_
  refine lv_topl (fun x57 e57 => ?_)
  have hw := hw x57 e57
  refine lv_lstore (lv' := [(16, .long x57), (14, .long x50), (12, .long x43), (10, .long x36), (8, .long x24), (6, .long x12), (4, .long r1), (0, .long p0), (2, .long p1)]) hx hb d_M_part_57 hl (by decide) rfl (fun ls hl => ?_)
  refine lv_lload hx hb d_M_part_59 (lv_at hl 4 rfl) ?_
  refine lv_lload hx hb d_M_part_61 (lv_at hl 2 rfl) ?_
  refine lv_lmul hx hb d_M_part_63 ?_
  refine lv_lload hx hb d_M_part_64 (lv_at hl 0 rfl) ?_
  refine lv_ldc2 (v := 100000000) hx hb hown (hts _ (kx_w iw_609)) d_M_part_66 ?_
  refine lv_ldiv hx hb d_M_part_69 (by decide) ?_
  refine lv_ladd hx hb d_M_part_70 ?_
  refine lv_topl (fun x71 e71 => ?_)
  have hw := hw x71 e71
  refine lv_lstore (lv' := [(18, .long x71), (16, .long x57), (14, .long x50), (12, .long x43), (10, .long x36), (8, .long x24), (6, .long x12), (4, .long r1), (0, .long p0), (2, .long p1)]) hx hb d_M_part_71 hl (by decide) rfl (fun ls hl => ?_)
  refine lv_lload hx hb d_M_part_73 (lv_at hl 6 rfl) ?_
  refine lv_lload hx hb d_M_part_75 (lv_at hl 2 rfl) ?_
  refine lv_lmul hx hb d_M_part_77 ?_
  refine lv_lload hx hb d_M_part_78 (lv_at hl 0 rfl) ?_
  refine lv_ldc2 (v := 100000000) hx hb hown (hts _ (kx_w iw_609)) d_M_part_80 ?_
  refine lv_lrem hx hb d_M_part_83 (by decide) ?_
  refine lv_ladd hx hb d_M_part_84 ?_
  refine lv_topl (fun x85 e85 => ?_)
  have hw := hw x85 e85
  refine lv_lstore (lv' := [(20, .long x85), (18, .long x71), (16, .long x57), (14, .long x50), (12, .long x43), (10, .long x36), (8, .long x24), (6, .long x12), (4, .long r1), (0, .long p0), (2, .long p1)]) hx hb d_M_part_85 hl (by decide) rfl (fun ls hl => ?_)
  refine lv_lload hx hb d_M_part_87 (lv_at hl 5 rfl) ?_
  refine lv_lload hx hb d_M_part_89 (lv_at hl 4 rfl) ?_
  refine lv_lmul hx hb d_M_part_91 ?_
  refine lv_lload hx hb d_M_part_92 (lv_at hl 1 rfl) ?_
  refine lv_ldc2 (v := 100000000) hx hb hown (hts _ (kx_w iw_609)) d_M_part_94 ?_
  refine lv_ldiv hx hb d_M_part_97 (by decide) ?_
  refine lv_ladd hx hb d_M_part_98 ?_
  refine lv_lload hx hb d_M_part_99 (lv_at hl 0 rfl) ?_
  refine lv_ldc2 (v := 100000000) hx hb hown (hts _ (kx_w iw_609)) d_M_part_101 ?_
  refine lv_ldiv hx hb d_M_part_104 (by decide) ?_
  refine lv_ladd hx hb d_M_part_105 ?_
  refine lv_topl (fun x106 e106 => ?_)
  have hw := hw x106 e106
  refine lv_lstore (lv' := [(22, .long x106), (20, .long x85), (18, .long x71), (16, .long x57), (14, .long x50), (12, .long x43), (10, .long x36), (8, .long x24), (6, .long x12), (4, .long r1), (0, .long p0), (2, .long p1)]) hx hb d_M_part_106 hl (by decide) rfl (fun ls hl => ?_)
  refine lv_lload hx hb d_M_part_108 (lv_at hl 7 rfl) ?_
  refine lv_lload hx hb d_M_part_110 (lv_at hl 4 rfl) ?_
  refine lv_lmul hx hb d_M_part_112 ?_
  refine lv_lload hx hb d_M_part_113 (lv_at hl 0 rfl) ?_
  refine lv_ladd hx hb d_M_part_115 ?_
  refine lv_topl (fun x116 e116 => ?_)
  have hw := hw x116 e116
  refine lv_lstore (lv' := [(24, .long x116), (22, .long x106), (20, .long x85), (18, .long x71), (16, .long x57), (14, .long x50), (12, .long x43), (10, .long x36), (8, .long x24), (6, .long x12), (4, .long r1), (0, .long p0), (2, .long p1)]) hx hb d_M_part_116 hl (by decide) rfl (fun ls hl => ?_)
  refine lv_lload hx hb d_M_part_118 (lv_at hl 2 rfl) ?_
  refine lv_ldc2 (v := 100000000) hx hb hown (hts _ (kx_w iw_609)) d_M_part_120 ?_
  refine lv_lrem hx hb d_M_part_123 (by decide) ?_
  refine lv_ldc2 (v := 100000000) hx hb hown (hts _ (kx_w iw_609)) d_M_part_124 ?_
  refine lv_lmul hx hb d_M_part_127 ?_
  refine lv_lload hx hb d_M_part_128 (lv_at hl 4 rfl) ?_
  refine lv_ldc2 (v := 100000000) hx hb hown (hts _ (kx_w iw_609)) d_M_part_130 ?_
  refine lv_lrem hx hb d_M_part_133 (by decide) ?_
  refine lv_ladd hx hb d_M_part_134 ?_
  refine lv_topl (fun x135 e135 => ?_)
  have hw := hw x135 e135
  refine lv_lstore (lv' := [(26, .long x135), (24, .long x116), (22, .long x106), (20, .long x85), (18, .long x71), (16, .long x57), (14, .long x50), (12, .long x43), (10, .long x36), (8, .long x24), (6, .long x12), (4, .long r1), (0, .long p0), (2, .long p1)]) hx hb d_M_part_135 hl (by decide) rfl (fun ls hl => ?_)
  refine lv_lload hx hb d_M_part_137 (lv_at hl 1 rfl) ?_
  refine lv_lload hx hb d_M_part_139 (lv_at hl 8 rfl) ?_
  refine lv_lload hx hb d_M_part_141 (lv_at hl 6 rfl) ?_
  refine lv_lmul hx hb d_M_part_143 ?_
  refine lv_ldc2 (v := 100000000) hx hb hown (hts _ (kx_w iw_609)) d_M_part_144 ?_
  refine lv_lmul hx hb d_M_part_147 ?_
  refine lv_ladd hx hb d_M_part_148 ?_
  refine lv_lload hx hb d_M_part_149 (lv_at hl 0 rfl) ?_
  refine lv_ldc2 (v := 5000000000000000) hx hb hown (hts _ (kx_w iw_649)) d_M_part_151 ?_
  refine W.lcmp hx hb d_M_part_154 ?_
  refine lv_if_lt (tgt := 162) hx hb d_M_part_155 rfl (fun hc => ?_) (fun hc => ?_)
  ·
    have hc := (lc_lt _ _).mp hc
    have hw := hw.1 hc
    refine lv_lconst (v := 0) hx hb d_M_part_162 (by decide) ?_
    refine lv_ladd hx hb d_M_part_163 ?_
    refine lv_topl (fun x164 e164 => ?_)
    have hw := hw x164 e164
    refine lv_lstore (lv' := [(28, .long x164), (26, .long x135), (24, .long x116), (22, .long x106), (20, .long x85), (18, .long x71), (16, .long x57), (14, .long x50), (12, .long x43), (10, .long x36), (8, .long x24), (6, .long x12), (4, .long r1), (0, .long p0), (2, .long p1)]) hx hb d_M_part_164 hl (by decide) rfl (fun ls hl => ?_)
    refine lv_lload_n hx hb d_M_part_166 rfl (lv_at hl 13 rfl) ?_
    refine lv_lconst (v := 0) hx hb d_M_part_167 (by decide) ?_
    refine W.lcmp hx hb d_M_part_168 ?_
    refine lv_if_ge (tgt := 178) hx hb d_M_part_169 rfl (fun hc => ?_) (fun hc => ?_)
    ·
      have hc := (lc_ge _ _).mp hc
      have hw := hw.1 hc
      refine lv_lload hx hb d_M_part_178 (lv_at hl 0 rfl) ?_
      exact W.lret (v := x164) hx hb hr (fun t ht hW => ⟨⟨x164, (), rfl, hw, ⟨by rw [ht]; exact hP, hD⟩⟩, hS.F ht⟩) hS.2.2 d_M_part_180
    ·
      have hc := mt (lc_ge _ _).mpr hc
      have hw := hw.2 hc
      refine lv_lload hx hb d_M_part_172 (lv_at hl 0 rfl) ?_
      refine lv_lneg hx hb d_M_part_174 ?_
      refine lv_goto (tgt := 180) hx hb d_M_part_175 rfl ?_
      exact W.lret (v := (-x164)) hx hb hr (fun t ht hW => ⟨⟨(-x164), (), rfl, hw, ⟨by rw [ht]; exact hP, hD⟩⟩, hS.F ht⟩) hS.2.2 d_M_part_180
  ·
    have hc := mt (lc_lt _ _).mpr hc
    have hw := hw.2 hc
    refine lv_lconst (v := 1) hx hb d_M_part_158 (by decide) ?_
    refine lv_goto (tgt := 163) hx hb d_M_part_159 rfl ?_
    refine lv_ladd hx hb d_M_part_163 ?_
    refine lv_topl (fun x164 e164 => ?_)
    have hw := hw x164 e164
    refine lv_lstore (lv' := [(28, .long x164), (26, .long x135), (24, .long x116), (22, .long x106), (20, .long x85), (18, .long x71), (16, .long x57), (14, .long x50), (12, .long x43), (10, .long x36), (8, .long x24), (6, .long x12), (4, .long r1), (0, .long p0), (2, .long p1)]) hx hb d_M_part_164 hl (by decide) rfl (fun ls hl => ?_)
    refine lv_lload_n hx hb d_M_part_166 rfl (lv_at hl 13 rfl) ?_
    refine lv_lconst (v := 0) hx hb d_M_part_167 (by decide) ?_
    refine W.lcmp hx hb d_M_part_168 ?_
    refine lv_if_ge (tgt := 178) hx hb d_M_part_169 rfl (fun hc => ?_) (fun hc => ?_)
    ·
      have hc := (lc_ge _ _).mp hc
      have hw := hw.1 hc
      refine lv_lload hx hb d_M_part_178 (lv_at hl 0 rfl) ?_
      exact W.lret (v := x164) hx hb hr (fun t ht hW => ⟨⟨x164, (), rfl, hw, ⟨by rw [ht]; exact hP, hD⟩⟩, hS.F ht⟩) hS.2.2 d_M_part_180
    ·
      have hc := mt (lc_ge _ _).mpr hc
      have hw := hw.2 hc
      refine lv_lload hx hb d_M_part_172 (lv_at hl 0 rfl) ?_
      refine lv_lneg hx hb d_M_part_174 ?_
      refine lv_goto (tgt := 180) hx hb d_M_part_175 rfl ?_
      exact W.lret (v := (-x164)) hx hb hr (fun t ht hW => ⟨⟨(-x164), (), rfl, hw, ⟨by rw [ht]; exact hP, hD⟩⟩, hS.F ht⟩) hS.2.2 d_M_part_180
/-! ConsolidationDeskModel.total(II)J -/
abbrev y_M_total : MethodName := ⟨"ConsolidationDeskModel", "total", "(II)J"⟩
theorem d_M_total_0 : decode prog_5_method_24_code 0 = .ok (.lconst 0, 1) := by decide +kernel
theorem d_M_total_1 : decode prog_5_method_24_code 1 = .ok (.lstore_n 3, 1) := by decide +kernel
theorem d_M_total_2 : decode prog_5_method_24_code 2 = .ok (.iconst 0, 1) := by decide +kernel
theorem d_M_total_3 : decode prog_5_method_24_code 3 = .ok (.istore 5, 2) := by decide +kernel
theorem d_M_total_5 : decode prog_5_method_24_code 5 = .ok (.iload 5, 2) := by decide +kernel
theorem d_M_total_7 : decode prog_5_method_24_code 7 = .ok (.bipush 13, 2) := by decide +kernel
theorem d_M_total_9 : decode prog_5_method_24_code 9 = .ok (.if_icmp .ge 30, 3) := by decide +kernel
theorem d_M_total_12 : decode prog_5_method_24_code 12 = .ok (.lload_n 3, 1) := by decide +kernel
theorem d_M_total_13 : decode prog_5_method_24_code 13 = .ok (.aload_n 0, 1) := by decide +kernel
theorem d_M_total_14 : decode prog_5_method_24_code 14 = .ok (.getfield 32, 3) := by decide +kernel
theorem d_M_total_17 : decode prog_5_method_24_code 17 = .ok (.sipush 156, 3) := by decide +kernel
theorem d_M_total_20 : decode prog_5_method_24_code 20 = .ok (.iload_n 1, 1) := by decide +kernel
theorem d_M_total_21 : decode prog_5_method_24_code 21 = .ok (.imul, 1) := by decide +kernel
theorem d_M_total_22 : decode prog_5_method_24_code 22 = .ok (.bipush 13, 2) := by decide +kernel
theorem d_M_total_24 : decode prog_5_method_24_code 24 = .ok (.iload_n 2, 1) := by decide +kernel
theorem d_M_total_25 : decode prog_5_method_24_code 25 = .ok (.imul, 1) := by decide +kernel
theorem d_M_total_26 : decode prog_5_method_24_code 26 = .ok (.iadd, 1) := by decide +kernel
theorem d_M_total_27 : decode prog_5_method_24_code 27 = .ok (.iload 5, 2) := by decide +kernel
theorem d_M_total_29 : decode prog_5_method_24_code 29 = .ok (.iadd, 1) := by decide +kernel
theorem d_M_total_30 : decode prog_5_method_24_code 30 = .ok (.laload, 1) := by decide +kernel
theorem d_M_total_31 : decode prog_5_method_24_code 31 = .ok (.ladd, 1) := by decide +kernel
theorem d_M_total_32 : decode prog_5_method_24_code 32 = .ok (.lstore_n 3, 1) := by decide +kernel
theorem d_M_total_33 : decode prog_5_method_24_code 33 = .ok (.iinc 5 1, 3) := by decide +kernel
theorem d_M_total_36 : decode prog_5_method_24_code 36 = .ok (.goto (-31), 3) := by decide +kernel
theorem d_M_total_39 : decode prog_5_method_24_code 39 = .ok (.lload_n 3, 1) := by decide +kernel
theorem d_M_total_40 : decode prog_5_method_24_code 40 = .ok (.lreturn, 1) := by decide +kernel
abbrev WS_M_total (cI cL cZ : ClassId)  (h0 a_currency a_sort a_closing a_average a_held a_sum a_told a_left a_step a_outside a_item : Nat) (v_thrown : Int32) (v_companies : Int32) (v_accounts : Int32) (v_done : Int32) (v_items : Int32) (v_left : (Nat → Int64)) : va_W := [(h0, .inr (3, [.int v_thrown, .int v_companies, .int v_accounts, .ref a_currency, .ref a_sort, .ref a_closing, .ref a_average, .ref a_held, .ref a_sum, .ref a_told, .int v_done, .ref a_left, .ref a_step, .ref a_outside, .int v_items, .ref a_item])), (a_left, .inl (cL, 1872, .inr (.inl v_left)))]
def wp_M_total  (p0 : Int32) (p1 : Int32) (v_left : (Nat → Int64)) (post : Int64 → Unit → Prop) : Prop := (∃ (I5 : Int64 → Int32 → Prop) (μ5 : Int64 → Int32 → Nat), I5 0 0 ∧ ∀ (l3_5 : Int64) (l5_5 : Int32), I5 l3_5 l5_5 → ((13 ≤ l5_5 → post l3_5 ()) ∧ (¬ 13 ≤ l5_5 → (vp_in (((156 * p0) + (13 * p1)) + l5_5) 1872 ∧ (∀ x32 : Int64, x32 = (l3_5 + (v_left (Int32.toNatClampNeg (((156 * p0) + (13 * p1)) + l5_5)))) → I5 x32 (l5_5 + 1) ∧ μ5 x32 (l5_5 + 1) < μ5 l3_5 l5_5)))))
abbrev ws_M_total : List Cond := .code y_M_total prog_5_method_24_code 6 (some .long) :: kxW
abbrev rm_M_total : Room := { frames := 0, cells := 0, slots := 0, locals := 0 }
abbrev QC_M_total (dC : Nat → ClassId) (dI : Nat → Nat → Nat) (cI cL cZ : ClassId) (A : Nat → Prop)  (h0 a_currency a_sort a_closing a_average a_held a_sum a_told a_left a_step a_outside a_item : Nat) (v_thrown : Int32) (v_companies : Int32) (v_accounts : Int32) (v_done : Int32) (v_items : Int32) (v_left : (Nat → Int64)) (post : Int64 → Unit → Prop) : Array Value → State → Outcome → State → Prop := va_Ql post (fun (u : Unit) t => kx_B (dC, dI) classes A (WS_M_total cI cL cZ h0 a_currency a_sort a_closing a_average a_held a_sum a_told a_left a_step a_outside a_item v_thrown v_companies v_accounts v_done v_items v_left) t) A
set_option maxHeartbeats 4000000 in
set_option maxRecDepth 100000 in
theorem c_M_total (l : Launch) (dC : Nat → ClassId) (dI : Nat → Nat → Nat) (cI cL cZ : ClassId)  (h0 a_currency a_sort a_closing a_average a_held a_sum a_told a_left a_step a_outside a_item : Nat) (v_thrown : Int32) (v_companies : Int32) (v_accounts : Int32) (v_done : Int32) (v_items : Int32) (v_left : (Nat → Int64)) (sz : Nat) (p0 : Int32) (p1 : Int32) {post : Int64 → Unit → Prop} (hw : wp_M_total p0 p1 v_left post) : Met l y_M_total ws_M_total rm_M_total (kx_Pc (dC, dI) classes (kx_T cI cL cZ) (WS_M_total cI cL cZ h0 a_currency a_sort a_closing a_average a_held a_sum a_told a_left a_step a_outside a_item v_thrown v_companies v_accounts v_done v_items v_left) sz [.ref h0, .int p0, .int p1]) (QC_M_total dC dI cI cL cZ (va_A (WS_M_total cI cL cZ h0 a_currency a_sort a_closing a_average a_held a_sum a_told a_left a_step a_outside a_item v_thrown v_companies v_accounts v_done v_items v_left) sz) h0 a_currency a_sort a_closing a_average a_held a_sum a_told a_left a_step a_outside a_item v_thrown v_companies v_accounts v_done v_items v_left post) 0 0 (va_A (WS_M_total cI cL cZ h0 a_currency a_sort a_closing a_average a_held a_sum a_told a_left a_step a_outside a_item v_thrown v_companies v_accounts v_done v_items v_left) sz) := by
  refine Met.ofW (cc := prog_5_method_24_code) (maxL := 6) (ret := (some .long)) (by decide) rfl ?_
  intro p e s m args below meth c s₁ B hml hv
  obtain ⟨rfl, hsz, hP, hK, hD0, hN⟩ := hv
  have hx := B.exec
  have hb := B.bytes
  have hr := B.returns
  have hts := atoms_spec (ws := ws_M_total) B.pre
  have hown : s.vm.findClass R_M = some m.cls := findClass_of_methodNamed B.named
  have hlocks := B.notSynchronized
  subst hsz
  have hD := hD0.self (sz := s.heap.size)
  generalize hAe : va_A (WS_M_total cI cL cZ h0 a_currency a_sort a_closing a_average a_held a_sum a_told a_left a_step a_outside a_item v_thrown v_companies v_accounts v_done v_items v_left) s.heap.size = A at hD ⊢
  have hA : ∀ q : Nat, s.heap.size ≤ q → A q := fun q h => by rw [← hAe]; exact Or.inr h
  have hS : va_S A s.heap s.heap [] := va_S.rf
  have hP : va_P (dC, dI) classes (WS_M_total cI cL cZ h0 a_currency a_sort a_closing a_average a_held a_sum a_told a_left a_step a_outside a_item v_thrown v_companies v_accounts v_done v_items v_left) s.heap := hP
  have hl := lv_entry ([.ref h0, .int p0, .int p1]) (n := 6) (Nat.le_of_ble_eq_true rfl)
  rw [lg_entry_eq]
  generalize (lg_sl ([.ref h0, .int p0, .int p1]) ++ List.replicate (6 - (lg_sl ([.ref h0, .int p0, .int p1])).length) Slot.unset).toArray = ls at hl ⊢
  have hl : lv_has ls 6 [(0, .ref h0), (1, .int p0), (2, .int p1)] := hl
  unfold wp_M_total at hw
  refine (show ∀ (H : Heap) (locs : List Loc), va_P (dC, dI) classes (WS_M_total cI cL cZ h0 a_currency a_sort a_closing a_average a_held a_sum a_told a_left a_step a_outside a_item v_thrown v_companies v_accounts v_done v_items v_left) H → va_S A s.heap H locs → W p l e (headSpec ws_M_total rm_M_total).room s m ([.ref h0, .int p0, .int p1] : List Value).toArray below meth c H locs 0 0 (MQ below (QC_M_total dC dI cI cL cZ A h0 a_currency a_sort a_closing a_average a_held a_sum a_told a_left a_step a_outside a_item v_thrown v_companies v_accounts v_done v_items v_left post) ([.ref h0, .int p0, .int p1] : List Value).toArray s 0 0 A) (F0 m 0 ls []) from ?_) _ _ hP hS
  intro H locs hP hS
  refine lv_lconst (v := 0) hx hb d_M_total_0 (by decide) ?_
  refine lv_lstore_n (lv' := [(3, .long 0), (0, .ref h0), (1, .int p0), (2, .int p1)]) hx hb d_M_total_1 rfl hl (by decide) rfl (fun ls hl => ?_)
  refine lv_iconst (v := 0) hx hb d_M_total_2 (by decide) ?_
  refine lv_istore (lv' := [(5, .int 0), (3, .long 0), (0, .ref h0), (1, .int p0), (2, .int p1)]) hx hb d_M_total_3 hl (by decide) rfl (fun ls hl => ?_)
  have hl := lv_sub hl [2, 3, 4, 1, 0] rfl
  obtain ⟨I5, μ5, hi5, hs5⟩ := hw
  have L5 : ∀ (n : Nat) (l3_5 : Int64) (l5_5 : Int32) (H : Heap) (locs : List Loc) (ls : Array Slot), μ5 l3_5 l5_5 < n → I5 l3_5 l5_5 → lv_has ls 6 [(0, .ref h0), (1, .int p0), (2, .int p1), (3, .long l3_5), (5, .int l5_5)] → va_P (dC, dI) classes (WS_M_total cI cL cZ h0 a_currency a_sort a_closing a_average a_held a_sum a_told a_left a_step a_outside a_item v_thrown v_companies v_accounts v_done v_items v_left) H → va_D A (WS_M_total cI cL cZ h0 a_currency a_sort a_closing a_average a_held a_sum a_told a_left a_step a_outside a_item v_thrown v_companies v_accounts v_done v_items v_left) → va_S A s.heap H locs → W p l e (headSpec ws_M_total rm_M_total).room s m ([.ref h0, .int p0, .int p1] : List Value).toArray below meth c H locs 0 0 (MQ below (QC_M_total dC dI cI cL cZ A h0 a_currency a_sort a_closing a_average a_held a_sum a_told a_left a_step a_outside a_item v_thrown v_companies v_accounts v_done v_items v_left post) ([.ref h0, .int p0, .int p1] : List Value).toArray s 0 0 A) (F0 m 5 ls []) := by
    intro n
    induction n with
    | zero => intro l3_5 l5_5 H locs ls hn; exact absurd hn (Nat.not_lt_zero _)
    | succ n ih5 =>
      intro l3_5 l5_5 H locs ls hn5 hI hl hP hD hS
      have hw := hs5 l3_5 l5_5 hI
      refine lv_iload hx hb d_M_total_5 (lv_at hl 4 rfl) ?_
      refine lv_bipush (v := 13) hx hb d_M_total_7 (by decide) ?_
      refine lv_icmp_ge (tgt := 39) hx hb d_M_total_9 rfl (fun hc => ?_) (fun hc => ?_)
      ·
        have hw := hw.1 hc
        refine lv_lload_n hx hb d_M_total_39 rfl (lv_at hl 3 rfl) ?_
        exact W.lret (v := l3_5) hx hb hr (fun t ht hW => ⟨⟨l3_5, (), rfl, hw, ⟨by rw [ht]; exact hP, hD⟩⟩, hS.F ht⟩) hS.2.2 d_M_total_40
      ·
        have hw := hw.2 hc
        refine lv_lload_n hx hb d_M_total_12 rfl (lv_at hl 3 rfl) ?_
        refine lv_aload_n hx hb d_M_total_13 rfl (lv_at hl 0 rfl) ?_
        refine va_get (D := (dC, dI)) (ci := 3) (v := .ref a_left) (C := R_M) (T := F_M) (N := 16) hx hb hts (kx_in in_M) hown hK hP 0 rfl rfl 11 (by decide) (hts _ (kx_w iw_486)) (fun _ h9 => h9) rfl d_M_total_14 ?_
        refine lv_sipush (v := 156) hx hb d_M_total_17 (by decide) ?_
        refine lv_iload_n hx hb d_M_total_20 rfl (lv_at hl 1 rfl) ?_
        refine lv_imul hx hb d_M_total_21 ?_
        refine lv_bipush (v := 13) hx hb d_M_total_22 (by decide) ?_
        refine lv_iload_n hx hb d_M_total_24 rfl (lv_at hl 2 rfl) ?_
        refine lv_imul hx hb d_M_total_25 ?_
        refine lv_iadd hx hb d_M_total_26 ?_
        refine lv_iload hx hb d_M_total_27 (lv_at hl 4 rfl) ?_
        refine lv_iadd hx hb d_M_total_29 ?_
        obtain ⟨hi, hw⟩ := hw
        refine va_lald hx hb hK hP 1 1 rfl rfl hi d_M_total_30 ?_
        refine lv_ladd hx hb d_M_total_31 ?_
        refine lv_topl (fun x32 e32 => ?_)
        have hw := hw x32 e32
        refine lv_lstore_n (lv' := [(3, .long x32), (0, .ref h0), (1, .int p0), (2, .int p1), (5, .int l5_5)]) hx hb d_M_total_32 rfl hl (by decide) rfl (fun ls hl => ?_)
        refine lv_iinc (v := (l5_5 + 1)) (lv' := [(5, .int (l5_5 + 1)), (3, .long x32), (0, .ref h0), (1, .int p0), (2, .int p1)]) hx hb d_M_total_33 hl (k := 4) rfl rfl (by decide) rfl (fun ls hl => ?_)
        refine lv_goto (tgt := 5) hx hb d_M_total_36 rfl ?_
        have hl := lv_sub hl [2, 3, 4, 1, 0] rfl
        exact ih5 x32 (l5_5 + 1) _ _ _ (Nat.lt_of_lt_of_le hw.2 (Nat.le_of_lt_succ hn5)) hw.1 hl hP hD hS
  exact L5 _ 0 0 _ _ _ (Nat.lt_succ_self _) hi5 hl hP hD hS
/-! ConsolidationDeskModel.mark(I)V -/
abbrev y_M_mark : MethodName := ⟨"ConsolidationDeskModel", "mark", "(I)V"⟩
theorem d_M_mark_0 : decode prog_5_method_25_code 0 = .ok (.iconst 0, 1) := by decide +kernel
theorem d_M_mark_1 : decode prog_5_method_25_code 1 = .ok (.istore_n 2, 1) := by decide +kernel
theorem d_M_mark_2 : decode prog_5_method_25_code 2 = .ok (.iload_n 2, 1) := by decide +kernel
theorem d_M_mark_3 : decode prog_5_method_25_code 3 = .ok (.bipush 12, 2) := by decide +kernel
theorem d_M_mark_5 : decode prog_5_method_25_code 5 = .ok (.if_icmp .ge 46, 3) := by decide +kernel
theorem d_M_mark_8 : decode prog_5_method_25_code 8 = .ok (.iconst 0, 1) := by decide +kernel
theorem d_M_mark_9 : decode prog_5_method_25_code 9 = .ok (.istore_n 3, 1) := by decide +kernel
theorem d_M_mark_10 : decode prog_5_method_25_code 10 = .ok (.iload_n 3, 1) := by decide +kernel
theorem d_M_mark_11 : decode prog_5_method_25_code 11 = .ok (.bipush 12, 2) := by decide +kernel
theorem d_M_mark_13 : decode prog_5_method_25_code 13 = .ok (.if_icmp .ge 32, 3) := by decide +kernel
theorem d_M_mark_16 : decode prog_5_method_25_code 16 = .ok (.aload_n 0, 1) := by decide +kernel
theorem d_M_mark_17 : decode prog_5_method_25_code 17 = .ok (.getfield 35, 3) := by decide +kernel
theorem d_M_mark_20 : decode prog_5_method_25_code 20 = .ok (.sipush 144, 3) := by decide +kernel
theorem d_M_mark_23 : decode prog_5_method_25_code 23 = .ok (.iload_n 1, 1) := by decide +kernel
theorem d_M_mark_24 : decode prog_5_method_25_code 24 = .ok (.imul, 1) := by decide +kernel
theorem d_M_mark_25 : decode prog_5_method_25_code 25 = .ok (.bipush 12, 2) := by decide +kernel
theorem d_M_mark_27 : decode prog_5_method_25_code 27 = .ok (.iload_n 2, 1) := by decide +kernel
theorem d_M_mark_28 : decode prog_5_method_25_code 28 = .ok (.imul, 1) := by decide +kernel
theorem d_M_mark_29 : decode prog_5_method_25_code 29 = .ok (.iadd, 1) := by decide +kernel
theorem d_M_mark_30 : decode prog_5_method_25_code 30 = .ok (.iload_n 3, 1) := by decide +kernel
theorem d_M_mark_31 : decode prog_5_method_25_code 31 = .ok (.iadd, 1) := by decide +kernel
theorem d_M_mark_32 : decode prog_5_method_25_code 32 = .ok (.aload_n 0, 1) := by decide +kernel
theorem d_M_mark_33 : decode prog_5_method_25_code 33 = .ok (.iload_n 2, 1) := by decide +kernel
theorem d_M_mark_34 : decode prog_5_method_25_code 34 = .ok (.iload_n 3, 1) := by decide +kernel
theorem d_M_mark_35 : decode prog_5_method_25_code 35 = .ok (.invokevirtual 112, 3) := by decide +kernel
theorem d_M_mark_38 : decode prog_5_method_25_code 38 = .ok (.lastore, 1) := by decide +kernel
theorem d_M_mark_39 : decode prog_5_method_25_code 39 = .ok (.iinc 3 1, 3) := by decide +kernel
theorem d_M_mark_42 : decode prog_5_method_25_code 42 = .ok (.goto (-32), 3) := by decide +kernel
theorem d_M_mark_45 : decode prog_5_method_25_code 45 = .ok (.iinc 2 1, 3) := by decide +kernel
theorem d_M_mark_48 : decode prog_5_method_25_code 48 = .ok (.goto (-46), 3) := by decide +kernel
theorem d_M_mark_51 : decode prog_5_method_25_code 51 = .ok (.return_, 1) := by decide +kernel
abbrev WS_M_mark (cI cL cZ : ClassId)  (h0 a_currency a_sort a_closing a_average a_held a_sum a_told a_left a_step a_outside a_item : Nat) (v_thrown : Int32) (v_companies : Int32) (v_accounts : Int32) (v_done : Int32) (v_items : Int32) (v_left : (Nat → Int64)) (v_step : (Nat → Int64)) : va_W := [(h0, .inr (3, [.int v_thrown, .int v_companies, .int v_accounts, .ref a_currency, .ref a_sort, .ref a_closing, .ref a_average, .ref a_held, .ref a_sum, .ref a_told, .int v_done, .ref a_left, .ref a_step, .ref a_outside, .int v_items, .ref a_item])), (a_left, .inl (cL, 1872, .inr (.inl v_left))), (a_step, .inl (cL, 432, .inr (.inl v_step)))]
def wp_M_mark  (p0 : Int32) (v_left : (Nat → Int64)) (v_step : (Nat → Int64)) (post : (Nat → Int64) → Prop) : Prop := (∃ (I2 : Int32 → (Nat → Int64) → Prop) (μ2 : Int32 → (Nat → Int64) → Nat), I2 0 v_step ∧ ∀ (l2_2 : Int32) (v_step_2 : (Nat → Int64)), I2 l2_2 v_step_2 → ((12 ≤ l2_2 → post v_step_2) ∧ (¬ 12 ≤ l2_2 → (∃ (I10 : Int32 → (Nat → Int64) → Prop) (μ10 : Int32 → (Nat → Int64) → Nat), I10 0 v_step_2 ∧ ∀ (l3_10 : Int32) (v_step_10 : (Nat → Int64)), I10 l3_10 v_step_10 → ((12 ≤ l3_10 → I2 (l2_2 + 1) v_step_10 ∧ μ2 (l2_2 + 1) v_step_10 < μ2 l2_2 v_step_2) ∧ (¬ 12 ≤ l3_10 → (wp_M_total l2_2 l3_10 v_left (fun (r35 : Int64) (u35 : Unit) => (vp_in (((144 * p0) + (12 * l2_2)) + l3_10) 432 ∧ I10 (l3_10 + 1) (vp_updL v_step_10 (Int32.toNatClampNeg (((144 * p0) + (12 * l2_2)) + l3_10)) r35) ∧ μ10 (l3_10 + 1) (vp_updL v_step_10 (Int32.toNatClampNeg (((144 * p0) + (12 * l2_2)) + l3_10)) r35) < μ10 l3_10 v_step_10)))))))))
abbrev ws_M_mark : List Cond := .code y_M_mark prog_5_method_25_code 4 none :: kxW
abbrev rm_M_mark : Room := { frames := 1, cells := 0, slots := 0, locals := 25 }
abbrev QC_M_mark (dC : Nat → ClassId) (dI : Nat → Nat → Nat) (cI cL cZ : ClassId) (A : Nat → Prop)  (h0 a_currency a_sort a_closing a_average a_held a_sum a_told a_left a_step a_outside a_item : Nat) (v_thrown : Int32) (v_companies : Int32) (v_accounts : Int32) (v_done : Int32) (v_items : Int32) (v_left : (Nat → Int64)) (v_step : (Nat → Int64)) (post : (Nat → Int64) → Prop) : Array Value → State → Outcome → State → Prop := va_Qv post (fun (u : (Nat → Int64)) t => kx_B (dC, dI) classes A (WS_M_mark cI cL cZ h0 a_currency a_sort a_closing a_average a_held a_sum a_told a_left a_step a_outside a_item v_thrown v_companies v_accounts v_done v_items v_left u) t) A
set_option maxHeartbeats 4000000 in
set_option maxRecDepth 100000 in
theorem c_M_mark (l : Launch) (dC : Nat → ClassId) (dI : Nat → Nat → Nat) (cI cL cZ : ClassId)  (h0 a_currency a_sort a_closing a_average a_held a_sum a_told a_left a_step a_outside a_item : Nat) (v_thrown : Int32) (v_companies : Int32) (v_accounts : Int32) (v_done : Int32) (v_items : Int32) (v_left : (Nat → Int64)) (v_step : (Nat → Int64)) (sz : Nat) (p0 : Int32) {post : (Nat → Int64) → Prop} (hw : wp_M_mark p0 v_left v_step post) : Met l y_M_mark ws_M_mark rm_M_mark (kx_Pc (dC, dI) classes (kx_T cI cL cZ) (WS_M_mark cI cL cZ h0 a_currency a_sort a_closing a_average a_held a_sum a_told a_left a_step a_outside a_item v_thrown v_companies v_accounts v_done v_items v_left v_step) sz [.ref h0, .int p0]) (QC_M_mark dC dI cI cL cZ (va_A (WS_M_mark cI cL cZ h0 a_currency a_sort a_closing a_average a_held a_sum a_told a_left a_step a_outside a_item v_thrown v_companies v_accounts v_done v_items v_left v_step) sz) h0 a_currency a_sort a_closing a_average a_held a_sum a_told a_left a_step a_outside a_item v_thrown v_companies v_accounts v_done v_items v_left v_step post) 0 0 (va_A (WS_M_mark cI cL cZ h0 a_currency a_sort a_closing a_average a_held a_sum a_told a_left a_step a_outside a_item v_thrown v_companies v_accounts v_done v_items v_left v_step) sz) := by
  refine Met.ofW (cc := prog_5_method_25_code) (maxL := 4) (ret := none) (by decide) rfl ?_
  intro p e s m args below meth c s₁ B hml hv
  obtain ⟨rfl, hsz, hP, hK, hD0, hN⟩ := hv
  have hx := B.exec
  have hb := B.bytes
  have hr := B.returns
  have hts := atoms_spec (ws := ws_M_mark) B.pre
  have hown : s.vm.findClass R_M = some m.cls := findClass_of_methodNamed B.named
  have hlocks := B.notSynchronized
  subst hsz
  have hD := hD0.self (sz := s.heap.size)
  generalize hAe : va_A (WS_M_mark cI cL cZ h0 a_currency a_sort a_closing a_average a_held a_sum a_told a_left a_step a_outside a_item v_thrown v_companies v_accounts v_done v_items v_left v_step) s.heap.size = A at hD ⊢
  have hA : ∀ q : Nat, s.heap.size ≤ q → A q := fun q h => by rw [← hAe]; exact Or.inr h
  have hS : va_S A s.heap s.heap [] := va_S.rf
  have hP : va_P (dC, dI) classes (WS_M_mark cI cL cZ h0 a_currency a_sort a_closing a_average a_held a_sum a_told a_left a_step a_outside a_item v_thrown v_companies v_accounts v_done v_items v_left v_step) s.heap := hP
  have hl := lv_entry ([.ref h0, .int p0]) (n := 4) (Nat.le_of_ble_eq_true rfl)
  rw [lg_entry_eq]
  generalize (lg_sl ([.ref h0, .int p0]) ++ List.replicate (4 - (lg_sl ([.ref h0, .int p0])).length) Slot.unset).toArray = ls at hl ⊢
  have hl : lv_has ls 4 [(0, .ref h0), (1, .int p0)] := hl
  unfold wp_M_mark at hw
  refine (show ∀ (H : Heap) (locs : List Loc), va_P (dC, dI) classes (WS_M_mark cI cL cZ h0 a_currency a_sort a_closing a_average a_held a_sum a_told a_left a_step a_outside a_item v_thrown v_companies v_accounts v_done v_items v_left v_step) H → va_S A s.heap H locs → W p l e (headSpec ws_M_mark rm_M_mark).room s m ([.ref h0, .int p0] : List Value).toArray below meth c H locs 0 0 (MQ below (QC_M_mark dC dI cI cL cZ A h0 a_currency a_sort a_closing a_average a_held a_sum a_told a_left a_step a_outside a_item v_thrown v_companies v_accounts v_done v_items v_left v_step post) ([.ref h0, .int p0] : List Value).toArray s 0 0 A) (F0 m 0 ls []) from ?_) _ _ hP hS
  intro H locs hP hS
  refine lv_iconst (v := 0) hx hb d_M_mark_0 (by decide) ?_
  refine lv_istore_n (lv' := [(2, .int 0), (0, .ref h0), (1, .int p0)]) hx hb d_M_mark_1 rfl hl (by decide) rfl (fun ls hl => ?_)
  have hl := lv_sub hl [1, 2, 0] rfl
  obtain ⟨I2, μ2, hi2, hs2⟩ := hw
  have L2 : ∀ (n : Nat) (l2_2 : Int32) (v_step_2 : (Nat → Int64)) (H : Heap) (locs : List Loc) (ls : Array Slot), μ2 l2_2 v_step_2 < n → I2 l2_2 v_step_2 → lv_has ls 4 [(0, .ref h0), (1, .int p0), (2, .int l2_2)] → va_P (dC, dI) classes (WS_M_mark cI cL cZ h0 a_currency a_sort a_closing a_average a_held a_sum a_told a_left a_step a_outside a_item v_thrown v_companies v_accounts v_done v_items v_left v_step_2) H → va_D A (WS_M_mark cI cL cZ h0 a_currency a_sort a_closing a_average a_held a_sum a_told a_left a_step a_outside a_item v_thrown v_companies v_accounts v_done v_items v_left v_step_2) → va_S A s.heap H locs → W p l e (headSpec ws_M_mark rm_M_mark).room s m ([.ref h0, .int p0] : List Value).toArray below meth c H locs 0 0 (MQ below (QC_M_mark dC dI cI cL cZ A h0 a_currency a_sort a_closing a_average a_held a_sum a_told a_left a_step a_outside a_item v_thrown v_companies v_accounts v_done v_items v_left v_step post) ([.ref h0, .int p0] : List Value).toArray s 0 0 A) (F0 m 2 ls []) := by
    intro n
    induction n with
    | zero => intro l2_2 v_step_2 H locs ls hn; exact absurd hn (Nat.not_lt_zero _)
    | succ n ih2 =>
      intro l2_2 v_step_2 H locs ls hn2 hI hl hP hD hS
      have hw := hs2 l2_2 v_step_2 hI
      refine lv_iload_n hx hb d_M_mark_2 rfl (lv_at hl 2 rfl) ?_
      refine lv_bipush (v := 12) hx hb d_M_mark_3 (by decide) ?_
      refine lv_icmp_ge (tgt := 51) hx hb d_M_mark_5 rfl (fun hc => ?_) (fun hc => ?_)
      ·
        have hw := hw.1 hc
        exact W.vret hx hb hr (fun t ht hW => ⟨⟨v_step_2, rfl, hw, ⟨by rw [ht]; exact hP, hD⟩⟩, hS.F ht⟩) hS.2.2 d_M_mark_51
      ·
        have hw := hw.2 hc
        refine lv_iconst (v := 0) hx hb d_M_mark_8 (by decide) ?_
        refine lv_istore_n (lv' := [(3, .int 0), (0, .ref h0), (1, .int p0), (2, .int l2_2)]) hx hb d_M_mark_9 rfl hl (by decide) rfl (fun ls hl => ?_)
        have hl := lv_sub hl [1, 2, 3, 0] rfl
        obtain ⟨I10, μ10, hi10, hs10⟩ := hw
        have L10 : ∀ (n : Nat) (l3_10 : Int32) (v_step_10 : (Nat → Int64)) (H : Heap) (locs : List Loc) (ls : Array Slot), μ10 l3_10 v_step_10 < n → I10 l3_10 v_step_10 → lv_has ls 4 [(0, .ref h0), (1, .int p0), (2, .int l2_2), (3, .int l3_10)] → va_P (dC, dI) classes (WS_M_mark cI cL cZ h0 a_currency a_sort a_closing a_average a_held a_sum a_told a_left a_step a_outside a_item v_thrown v_companies v_accounts v_done v_items v_left v_step_10) H → va_D A (WS_M_mark cI cL cZ h0 a_currency a_sort a_closing a_average a_held a_sum a_told a_left a_step a_outside a_item v_thrown v_companies v_accounts v_done v_items v_left v_step_10) → va_S A s.heap H locs → W p l e (headSpec ws_M_mark rm_M_mark).room s m ([.ref h0, .int p0] : List Value).toArray below meth c H locs 0 0 (MQ below (QC_M_mark dC dI cI cL cZ A h0 a_currency a_sort a_closing a_average a_held a_sum a_told a_left a_step a_outside a_item v_thrown v_companies v_accounts v_done v_items v_left v_step post) ([.ref h0, .int p0] : List Value).toArray s 0 0 A) (F0 m 10 ls []) := by
          intro n
          induction n with
          | zero => intro l3_10 v_step_10 H locs ls hn; exact absurd hn (Nat.not_lt_zero _)
          | succ n ih10 =>
            intro l3_10 v_step_10 H locs ls hn10 hI hl hP hD hS
            have hw := hs10 l3_10 v_step_10 hI
            refine lv_iload_n hx hb d_M_mark_10 rfl (lv_at hl 3 rfl) ?_
            refine lv_bipush (v := 12) hx hb d_M_mark_11 (by decide) ?_
            refine lv_icmp_ge (tgt := 45) hx hb d_M_mark_13 rfl (fun hc => ?_) (fun hc => ?_)
            ·
              have hw := hw.1 hc
              refine lv_iinc (v := (l2_2 + 1)) (lv' := [(2, .int (l2_2 + 1)), (0, .ref h0), (1, .int p0), (3, .int l3_10)]) hx hb d_M_mark_45 hl (k := 2) rfl rfl (by decide) rfl (fun ls hl => ?_)
              refine lv_goto (tgt := 2) hx hb d_M_mark_48 rfl ?_
              have hl := lv_sub hl [1, 2, 0] rfl
              exact ih2 (l2_2 + 1) v_step_10 _ _ _ (Nat.lt_of_lt_of_le hw.2 (Nat.le_of_lt_succ hn2)) hw.1 hl hP hD hS
            ·
              have hw := hw.2 hc
              refine lv_aload_n hx hb d_M_mark_16 rfl (lv_at hl 0 rfl) ?_
              refine va_get (D := (dC, dI)) (ci := 3) (v := .ref a_step) (C := R_M) (T := F_M) (N := 16) hx hb hts (kx_in in_M) hown hK hP 0 rfl rfl 12 (by decide) (hts _ (kx_w iw_487)) (fun _ h9 => h9) rfl d_M_mark_17 ?_
              refine lv_sipush (v := 144) hx hb d_M_mark_20 (by decide) ?_
              refine lv_iload_n hx hb d_M_mark_23 rfl (lv_at hl 1 rfl) ?_
              refine lv_imul hx hb d_M_mark_24 ?_
              refine lv_bipush (v := 12) hx hb d_M_mark_25 (by decide) ?_
              refine lv_iload_n hx hb d_M_mark_27 rfl (lv_at hl 2 rfl) ?_
              refine lv_imul hx hb d_M_mark_28 ?_
              refine lv_iadd hx hb d_M_mark_29 ?_
              refine lv_iload_n hx hb d_M_mark_30 rfl (lv_at hl 3 rfl) ?_
              refine lv_iadd hx hb d_M_mark_31 ?_
              refine lv_aload_n hx hb d_M_mark_32 rfl (lv_at hl 0 rfl) ?_
              refine lv_iload_n hx hb d_M_mark_33 rfl (lv_at hl 2 rfl) ?_
              refine lv_iload_n hx hb d_M_mark_34 rfl (lv_at hl 3 rfl) ?_
              refine kx_calll (ws' := fun u35 => (WS_M_mark cI cL cZ h0 a_currency a_sort a_closing a_average a_held a_sum a_told a_left a_step a_outside a_item v_thrown v_companies v_accounts v_done v_items v_left v_step_10)) (va_runV (As := [.int l2_2, .int l3_10]) (rest := [.int (((144 * p0) + (12 * l2_2)) + l3_10), .ref a_step]) ⟨hx, hb, hml, hown, hts⟩ (c_M_total l dC dI cI cL cZ h0 a_currency a_sort a_closing a_average a_held a_sum a_told a_left a_step a_outside a_item v_thrown v_companies v_accounts v_done v_items v_left H.size l2_2 l3_10 hw) ⟨(callB_of 2 hts (kx_good iw_628) rfl rfl rfl (hts _ (kx_w iw_4)) (hts _ (kx_w iw_625)) (by decide +kernel) ⟨Nat.le_of_ble_eq_true rfl, Nat.le_of_ble_eq_true rfl⟩), (hts _ (kx_w iw_627)), (hts _ (kx_w sl_M_total))⟩ (kx_preV hN hK hP hD [0, 1] (by decide) rfl 0 rfl rfl) rfl rfl hl.1 rfl (lv_room (Nat.le_of_ble_eq_true rfl)) d_M_mark_35 ⟨Nat.le_of_ble_eq_true rfl, Nat.le_of_ble_eq_true rfl⟩) hP hD hS hA [0, 1] [2] rfl rfl (by decide) (by decide) [1, 2, 0] (by decide) (fun _ => rfl) (fun r35 u35 H locs hw hP hD hS => ?_)
              have hP : va_P (dC, dI) classes (WS_M_mark cI cL cZ h0 a_currency a_sort a_closing a_average a_held a_sum a_told a_left a_step a_outside a_item v_thrown v_companies v_accounts v_done v_items v_left v_step_10) H := hP
              have hD : va_D A (WS_M_mark cI cL cZ h0 a_currency a_sort a_closing a_average a_held a_sum a_told a_left a_step a_outside a_item v_thrown v_companies v_accounts v_done v_items v_left v_step_10) := hD
              obtain ⟨hi, hw⟩ := hw
              refine va_last hx hb hK hP hD hS 2 1 rfl rfl hi d_M_mark_38 (fun H locs hP hD hS => ?_)
              have hP : va_P (dC, dI) classes (WS_M_mark cI cL cZ h0 a_currency a_sort a_closing a_average a_held a_sum a_told a_left a_step a_outside a_item v_thrown v_companies v_accounts v_done v_items v_left (vp_updL v_step_10 (Int32.toNatClampNeg (((144 * p0) + (12 * l2_2)) + l3_10)) r35)) H := hP
              have hD : va_D A (WS_M_mark cI cL cZ h0 a_currency a_sort a_closing a_average a_held a_sum a_told a_left a_step a_outside a_item v_thrown v_companies v_accounts v_done v_items v_left (vp_updL v_step_10 (Int32.toNatClampNeg (((144 * p0) + (12 * l2_2)) + l3_10)) r35)) := hD
              refine lv_iinc (v := (l3_10 + 1)) (lv' := [(3, .int (l3_10 + 1)), (0, .ref h0), (1, .int p0), (2, .int l2_2)]) hx hb d_M_mark_39 hl (k := 3) rfl rfl (by decide) rfl (fun ls hl => ?_)
              refine lv_goto (tgt := 10) hx hb d_M_mark_42 rfl ?_
              have hl := lv_sub hl [1, 2, 3, 0] rfl
              exact ih10 (l3_10 + 1) (vp_updL v_step_10 (Int32.toNatClampNeg (((144 * p0) + (12 * l2_2)) + l3_10)) r35) _ _ _ (Nat.lt_of_lt_of_le hw.2 (Nat.le_of_lt_succ hn10)) hw.1 hl hP hD hS
        exact L10 _ 0 v_step_2 _ _ _ (Nat.lt_succ_self _) hi10 hl hP hD hS
  exact L2 _ 0 v_step _ _ _ (Nat.lt_succ_self _) hi2 hl hP hD hS
