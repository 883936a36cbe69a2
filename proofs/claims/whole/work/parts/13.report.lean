/-! ConsolidationDesk$Report.stepPlace(III)I -/
abbrev y_R_stepPlace : MethodName := ⟨"ConsolidationDesk$Report", "stepPlace", "(III)I"⟩
theorem d_R_stepPlace_0 : decode prog_3_method_18_code 0 = .ok (.iload_n 0, 1) := by decide +kernel
theorem d_R_stepPlace_1 : decode prog_3_method_18_code 1 = .ok (.bipush 12, 2) := by decide +kernel
theorem d_R_stepPlace_3 : decode prog_3_method_18_code 3 = .ok (.imul, 1) := by decide +kernel
theorem d_R_stepPlace_4 : decode prog_3_method_18_code 4 = .ok (.iload_n 1, 1) := by decide +kernel
theorem d_R_stepPlace_5 : decode prog_3_method_18_code 5 = .ok (.iadd, 1) := by decide +kernel
theorem d_R_stepPlace_6 : decode prog_3_method_18_code 6 = .ok (.bipush 12, 2) := by decide +kernel
theorem d_R_stepPlace_8 : decode prog_3_method_18_code 8 = .ok (.imul, 1) := by decide +kernel
theorem d_R_stepPlace_9 : decode prog_3_method_18_code 9 = .ok (.iload_n 2, 1) := by decide +kernel
theorem d_R_stepPlace_10 : decode prog_3_method_18_code 10 = .ok (.iadd, 1) := by decide +kernel
theorem d_R_stepPlace_11 : decode prog_3_method_18_code 11 = .ok (.ireturn, 1) := by decide +kernel
abbrev WS_R_stepPlace (cI cL cZ : ClassId)    : va_W := []
def wp_R_stepPlace  (p0 : Int32) (p1 : Int32) (p2 : Int32)  (post : Int32 → Unit → Prop) : Prop := post ((((p0 * 12) + p1) * 12) + p2) ()
abbrev ws_R_stepPlace : List Cond := .code y_R_stepPlace prog_3_method_18_code 3 (some .int) :: kxW
abbrev rm_R_stepPlace : Room := { frames := 0, cells := 0, slots := 0, locals := 0 }
abbrev QC_R_stepPlace (dC : Nat → ClassId) (dI : Nat → Nat → Nat) (cI cL cZ : ClassId) (A : Nat → Prop)    (post : Int32 → Unit → Prop) : Array Value → State → Outcome → State → Prop := va_Qi post (fun (u : Unit) t => kx_B (dC, dI) classes A (WS_R_stepPlace cI cL cZ ) t) A
set_option maxHeartbeats 4000000 in
set_option maxRecDepth 100000 in
theorem c_R_stepPlace (l : Launch) (dC : Nat → ClassId) (dI : Nat → Nat → Nat) (cI cL cZ : ClassId)    (sz : Nat) (p0 : Int32) (p1 : Int32) (p2 : Int32) {post : Int32 → Unit → Prop} (hw : wp_R_stepPlace p0 p1 p2 post) : Met l y_R_stepPlace ws_R_stepPlace rm_R_stepPlace (kx_Pc (dC, dI) classes (kx_T cI cL cZ) (WS_R_stepPlace cI cL cZ ) sz [.int p0, .int p1, .int p2]) (QC_R_stepPlace dC dI cI cL cZ (va_A (WS_R_stepPlace cI cL cZ ) sz)  post) 0 0 (va_A (WS_R_stepPlace cI cL cZ ) sz) := by
  refine Met.ofW (cc := prog_3_method_18_code) (maxL := 3) (ret := (some .int)) (by decide) rfl ?_
  intro p e s m args below meth c s₁ B hml hv
  obtain ⟨rfl, hsz, hP, hK, hD0, hN⟩ := hv
  have hx := B.exec
  have hb := B.bytes
  have hr := B.returns
  have hts := atoms_spec (ws := ws_R_stepPlace) B.pre
  have hown : s.vm.findClass R_R = some m.cls := findClass_of_methodNamed B.named
  have hlocks := B.notSynchronized
  subst hsz
  have hD := hD0.self (sz := s.heap.size)
  generalize hAe : va_A (WS_R_stepPlace cI cL cZ ) s.heap.size = A at hD ⊢
  have hA : ∀ q : Nat, s.heap.size ≤ q → A q := fun q h => by rw [← hAe]; exact Or.inr h
  have hS : va_S A s.heap s.heap [] := va_S.rf
  have hP : va_P (dC, dI) classes (WS_R_stepPlace cI cL cZ ) s.heap := hP
  have hl := lv_entry ([.int p0, .int p1, .int p2]) (n := 3) (Nat.le_of_ble_eq_true rfl)
  rw [lg_entry_eq]
  generalize (lg_sl ([.int p0, .int p1, .int p2]) ++ List.replicate (3 - (lg_sl ([.int p0, .int p1, .int p2])).length) Slot.unset).toArray = ls at hl ⊢
  have hl : lv_has ls 3 [(0, .int p0), (1, .int p1), (2, .int p2)] := hl
  unfold wp_R_stepPlace at hw
  refine (show ∀ (H : Heap) (locs : List Loc), va_P (dC, dI) classes (WS_R_stepPlace cI cL cZ ) H → va_S A s.heap H locs → W p l e (headSpec ws_R_stepPlace rm_R_stepPlace).room s m ([.int p0, .int p1, .int p2] : List Value).toArray below meth c H locs 0 0 (MQ below (QC_R_stepPlace dC dI cI cL cZ A post) ([.int p0, .int p1, .int p2] : List Value).toArray s 0 0 A) (F0 m 0 ls []) from ?_) _ _ hP hS
  intro H locs hP hS
  refine lv_iload_n hx hb d_R_stepPlace_0 rfl (lv_at hl 0 rfl) ?_
  refine lv_bipush (v := 12) hx hb d_R_stepPlace_1 (by decide) ?_
  refine lv_imul hx hb d_R_stepPlace_3 ?_
  refine lv_iload_n hx hb d_R_stepPlace_4 rfl (lv_at hl 1 rfl) ?_
  refine lv_iadd hx hb d_R_stepPlace_5 ?_
  refine lv_bipush (v := 12) hx hb d_R_stepPlace_6 (by decide) ?_
  refine lv_imul hx hb d_R_stepPlace_8 ?_
  refine lv_iload_n hx hb d_R_stepPlace_9 rfl (lv_at hl 2 rfl) ?_
  refine lv_iadd hx hb d_R_stepPlace_10 ?_
  exact W.iret (v := ((((p0 * 12) + p1) * 12) + p2)) hx hb hr (fun t ht hW => ⟨⟨((((p0 * 12) + p1) * 12) + p2), (), rfl, hw, ⟨by rw [ht]; exact hP, hD⟩⟩, hS.F ht⟩) hS.2.2 d_R_stepPlace_11
/-! ConsolidationDesk$Report.isMade()Z -/
abbrev y_R_isMade : MethodName := ⟨"ConsolidationDesk$Report", "isMade", "()Z"⟩
theorem d_R_isMade_0 : decode prog_3_method_9_code 0 = .ok (.aload_n 0, 1) := by decide +kernel
theorem d_R_isMade_1 : decode prog_3_method_9_code 1 = .ok (.getfield 9, 3) := by decide +kernel
theorem d_R_isMade_4 : decode prog_3_method_9_code 4 = .ok (.ireturn, 1) := by decide +kernel
abbrev WS_R_isMade (cI cL cZ : ClassId)  (h0 a_amounts a_stepAmounts a_groupAmounts a_outsidersCredits a_openPlaces : Nat) (v_made : Int32) (v_companies : Int32) (v_accounts : Int32) (v_open : Int32) : va_W := [(h0, .inr (1, [.int v_made, .int v_companies, .int v_accounts, .ref a_amounts, .ref a_stepAmounts, .ref a_groupAmounts, .ref a_outsidersCredits, .ref a_openPlaces, .int v_open]))]
def wp_R_isMade   (v_made : Int32) (post : Int32 → Unit → Prop) : Prop := (narrow .boolean (.int v_made) = .int v_made ∧ post v_made ())
abbrev ws_R_isMade : List Cond := .code y_R_isMade prog_3_method_9_code 1 (some .boolean) :: kxW
abbrev rm_R_isMade : Room := { frames := 0, cells := 0, slots := 0, locals := 0 }
abbrev QC_R_isMade (dC : Nat → ClassId) (dI : Nat → Nat → Nat) (cI cL cZ : ClassId) (A : Nat → Prop)  (h0 a_amounts a_stepAmounts a_groupAmounts a_outsidersCredits a_openPlaces : Nat) (v_made : Int32) (v_companies : Int32) (v_accounts : Int32) (v_open : Int32) (post : Int32 → Unit → Prop) : Array Value → State → Outcome → State → Prop := va_Qi post (fun (u : Unit) t => kx_B (dC, dI) classes A (WS_R_isMade cI cL cZ h0 a_amounts a_stepAmounts a_groupAmounts a_outsidersCredits a_openPlaces v_made v_companies v_accounts v_open) t) A
set_option maxHeartbeats 4000000 in
set_option maxRecDepth 100000 in
theorem c_R_isMade (l : Launch) (dC : Nat → ClassId) (dI : Nat → Nat → Nat) (cI cL cZ : ClassId)  (h0 a_amounts a_stepAmounts a_groupAmounts a_outsidersCredits a_openPlaces : Nat) (v_made : Int32) (v_companies : Int32) (v_accounts : Int32) (v_open : Int32) (sz : Nat)  {post : Int32 → Unit → Prop} (hw : wp_R_isMade v_made post) : Met l y_R_isMade ws_R_isMade rm_R_isMade (kx_Pc (dC, dI) classes (kx_T cI cL cZ) (WS_R_isMade cI cL cZ h0 a_amounts a_stepAmounts a_groupAmounts a_outsidersCredits a_openPlaces v_made v_companies v_accounts v_open) sz [.ref h0]) (QC_R_isMade dC dI cI cL cZ (va_A (WS_R_isMade cI cL cZ h0 a_amounts a_stepAmounts a_groupAmounts a_outsidersCredits a_openPlaces v_made v_companies v_accounts v_open) sz) h0 a_amounts a_stepAmounts a_groupAmounts a_outsidersCredits a_openPlaces v_made v_companies v_accounts v_open post) 0 0 (va_A (WS_R_isMade cI cL cZ h0 a_amounts a_stepAmounts a_groupAmounts a_outsidersCredits a_openPlaces v_made v_companies v_accounts v_open) sz) := by
  refine Met.ofW (cc := prog_3_method_9_code) (maxL := 1) (ret := (some .boolean)) (by decide) rfl ?_
  intro p e s m args below meth c s₁ B hml hv
  obtain ⟨rfl, hsz, hP, hK, hD0, hN⟩ := hv
  have hx := B.exec
  have hb := B.bytes
  have hr := B.returns
  have hts := atoms_spec (ws := ws_R_isMade) B.pre
  have hown : s.vm.findClass R_R = some m.cls := findClass_of_methodNamed B.named
  have hlocks := B.notSynchronized
  subst hsz
  have hD := hD0.self (sz := s.heap.size)
  generalize hAe : va_A (WS_R_isMade cI cL cZ h0 a_amounts a_stepAmounts a_groupAmounts a_outsidersCredits a_openPlaces v_made v_companies v_accounts v_open) s.heap.size = A at hD ⊢
  have hA : ∀ q : Nat, s.heap.size ≤ q → A q := fun q h => by rw [← hAe]; exact Or.inr h
  have hS : va_S A s.heap s.heap [] := va_S.rf
  have hP : va_P (dC, dI) classes (WS_R_isMade cI cL cZ h0 a_amounts a_stepAmounts a_groupAmounts a_outsidersCredits a_openPlaces v_made v_companies v_accounts v_open) s.heap := hP
  have hl := lv_entry ([.ref h0]) (n := 1) (Nat.le_of_ble_eq_true rfl)
  rw [lg_entry_eq]
  generalize (lg_sl ([.ref h0]) ++ List.replicate (1 - (lg_sl ([.ref h0])).length) Slot.unset).toArray = ls at hl ⊢
  have hl : lv_has ls 1 [(0, .ref h0)] := hl
  unfold wp_R_isMade at hw
  refine (show ∀ (H : Heap) (locs : List Loc), va_P (dC, dI) classes (WS_R_isMade cI cL cZ h0 a_amounts a_stepAmounts a_groupAmounts a_outsidersCredits a_openPlaces v_made v_companies v_accounts v_open) H → va_S A s.heap H locs → W p l e (headSpec ws_R_isMade rm_R_isMade).room s m ([.ref h0] : List Value).toArray below meth c H locs 0 0 (MQ below (QC_R_isMade dC dI cI cL cZ A h0 a_amounts a_stepAmounts a_groupAmounts a_outsidersCredits a_openPlaces v_made v_companies v_accounts v_open post) ([.ref h0] : List Value).toArray s 0 0 A) (F0 m 0 ls []) from ?_) _ _ hP hS
  intro H locs hP hS
  refine lv_aload_n hx hb d_R_isMade_0 rfl (lv_at hl 0 rfl) ?_
  refine va_get (D := (dC, dI)) (ci := 1) (v := .int v_made) (C := R_R) (T := F_R) (N := 9) hx hb hts (kx_in in_R) hown hK hP 0 rfl rfl 0 (by decide) (hts _ (kx_w iw_56)) (fun _ h9 => h9) rfl d_R_isMade_1 ?_
  obtain ⟨hnz, hw⟩ := hw
  exact W.zret (v := v_made) hx hb hr hnz (fun t ht hW => ⟨⟨v_made, (), rfl, hw, ⟨by rw [ht]; exact hP, hD⟩⟩, hS.F ht⟩) hS.2.2 d_R_isMade_4
/-! ConsolidationDesk$Report.groupAmount(I)J -/
abbrev y_R_groupAmount : MethodName := ⟨"ConsolidationDesk$Report", "groupAmount", "(I)J"⟩
theorem d_R_groupAmount_0 : decode prog_3_method_10_code 0 = .ok (.aload_n 0, 1) := by decide +kernel
theorem d_R_groupAmount_1 : decode prog_3_method_10_code 1 = .ok (.getfield 29, 3) := by decide +kernel
theorem d_R_groupAmount_4 : decode prog_3_method_10_code 4 = .ok (.iload_n 1, 1) := by decide +kernel
theorem d_R_groupAmount_5 : decode prog_3_method_10_code 5 = .ok (.laload, 1) := by decide +kernel
theorem d_R_groupAmount_6 : decode prog_3_method_10_code 6 = .ok (.lreturn, 1) := by decide +kernel
abbrev WS_R_groupAmount (cI cL cZ : ClassId)  (h0 a_amounts a_stepAmounts a_groupAmounts a_outsidersCredits a_openPlaces : Nat) (v_made : Int32) (v_companies : Int32) (v_accounts : Int32) (v_open : Int32) (v_groupAmounts : (Nat → Int64)) : va_W := [(h0, .inr (1, [.int v_made, .int v_companies, .int v_accounts, .ref a_amounts, .ref a_stepAmounts, .ref a_groupAmounts, .ref a_outsidersCredits, .ref a_openPlaces, .int v_open])), (a_groupAmounts, .inl (cL, 12, .inr (.inl v_groupAmounts)))]
def wp_R_groupAmount  (p0 : Int32) (v_groupAmounts : (Nat → Int64)) (post : Int64 → Unit → Prop) : Prop := (vp_in p0 12 ∧ post (v_groupAmounts p0.toNatClampNeg) ())
abbrev ws_R_groupAmount : List Cond := .code y_R_groupAmount prog_3_method_10_code 2 (some .long) :: kxW
abbrev rm_R_groupAmount : Room := { frames := 0, cells := 0, slots := 0, locals := 0 }
abbrev QC_R_groupAmount (dC : Nat → ClassId) (dI : Nat → Nat → Nat) (cI cL cZ : ClassId) (A : Nat → Prop)  (h0 a_amounts a_stepAmounts a_groupAmounts a_outsidersCredits a_openPlaces : Nat) (v_made : Int32) (v_companies : Int32) (v_accounts : Int32) (v_open : Int32) (v_groupAmounts : (Nat → Int64)) (post : Int64 → Unit → Prop) : Array Value → State → Outcome → State → Prop := va_Ql post (fun (u : Unit) t => kx_B (dC, dI) classes A (WS_R_groupAmount cI cL cZ h0 a_amounts a_stepAmounts a_groupAmounts a_outsidersCredits a_openPlaces v_made v_companies v_accounts v_open v_groupAmounts) t) A
set_option maxHeartbeats 4000000 in
set_option maxRecDepth 100000 in
theorem c_R_groupAmount (l : Launch) (dC : Nat → ClassId) (dI : Nat → Nat → Nat) (cI cL cZ : ClassId)  (h0 a_amounts a_stepAmounts a_groupAmounts a_outsidersCredits a_openPlaces : Nat) (v_made : Int32) (v_companies : Int32) (v_accounts : Int32) (v_open : Int32) (v_groupAmounts : (Nat → Int64)) (sz : Nat) (p0 : Int32) {post : Int64 → Unit → Prop} (hw : wp_R_groupAmount p0 v_groupAmounts post) : Met l y_R_groupAmount ws_R_groupAmount rm_R_groupAmount (kx_Pc (dC, dI) classes (kx_T cI cL cZ) (WS_R_groupAmount cI cL cZ h0 a_amounts a_stepAmounts a_groupAmounts a_outsidersCredits a_openPlaces v_made v_companies v_accounts v_open v_groupAmounts) sz [.ref h0, .int p0]) (QC_R_groupAmount dC dI cI cL cZ (va_A (WS_R_groupAmount cI cL cZ h0 a_amounts a_stepAmounts a_groupAmounts a_outsidersCredits a_openPlaces v_made v_companies v_accounts v_open v_groupAmounts) sz) h0 a_amounts a_stepAmounts a_groupAmounts a_outsidersCredits a_openPlaces v_made v_companies v_accounts v_open v_groupAmounts post) 0 0 (va_A (WS_R_groupAmount cI cL cZ h0 a_amounts a_stepAmounts a_groupAmounts a_outsidersCredits a_openPlaces v_made v_companies v_accounts v_open v_groupAmounts) sz) := by
  refine Met.ofW (cc := prog_3_method_10_code) (maxL := 2) (ret := (some .long)) (by decide) rfl ?_
  intro p e s m args below meth c s₁ B hml hv
  obtain ⟨rfl, hsz, hP, hK, hD0, hN⟩ := hv
  have hx := B.exec
  have hb := B.bytes
  have hr := B.returns
  have hts := atoms_spec (ws := ws_R_groupAmount) B.pre
  have hown : s.vm.findClass R_R = some m.cls := findClass_of_methodNamed B.named
  have hlocks := B.notSynchronized
  subst hsz
  have hD := hD0.self (sz := s.heap.size)
  generalize hAe : va_A (WS_R_groupAmount cI cL cZ h0 a_amounts a_stepAmounts a_groupAmounts a_outsidersCredits a_openPlaces v_made v_companies v_accounts v_open v_groupAmounts) s.heap.size = A at hD ⊢
  have hA : ∀ q : Nat, s.heap.size ≤ q → A q := fun q h => by rw [← hAe]; exact Or.inr h
  have hS : va_S A s.heap s.heap [] := va_S.rf
  have hP : va_P (dC, dI) classes (WS_R_groupAmount cI cL cZ h0 a_amounts a_stepAmounts a_groupAmounts a_outsidersCredits a_openPlaces v_made v_companies v_accounts v_open v_groupAmounts) s.heap := hP
  have hl := lv_entry ([.ref h0, .int p0]) (n := 2) (Nat.le_of_ble_eq_true rfl)
  rw [lg_entry_eq]
  generalize (lg_sl ([.ref h0, .int p0]) ++ List.replicate (2 - (lg_sl ([.ref h0, .int p0])).length) Slot.unset).toArray = ls at hl ⊢
  have hl : lv_has ls 2 [(0, .ref h0), (1, .int p0)] := hl
  unfold wp_R_groupAmount at hw
  refine (show ∀ (H : Heap) (locs : List Loc), va_P (dC, dI) classes (WS_R_groupAmount cI cL cZ h0 a_amounts a_stepAmounts a_groupAmounts a_outsidersCredits a_openPlaces v_made v_companies v_accounts v_open v_groupAmounts) H → va_S A s.heap H locs → W p l e (headSpec ws_R_groupAmount rm_R_groupAmount).room s m ([.ref h0, .int p0] : List Value).toArray below meth c H locs 0 0 (MQ below (QC_R_groupAmount dC dI cI cL cZ A h0 a_amounts a_stepAmounts a_groupAmounts a_outsidersCredits a_openPlaces v_made v_companies v_accounts v_open v_groupAmounts post) ([.ref h0, .int p0] : List Value).toArray s 0 0 A) (F0 m 0 ls []) from ?_) _ _ hP hS
  intro H locs hP hS
  refine lv_aload_n hx hb d_R_groupAmount_0 rfl (lv_at hl 0 rfl) ?_
  refine va_get (D := (dC, dI)) (ci := 1) (v := .ref a_groupAmounts) (C := R_R) (T := F_R) (N := 9) hx hb hts (kx_in in_R) hown hK hP 0 rfl rfl 5 (by decide) (hts _ (kx_w iw_61)) (fun _ h9 => h9) rfl d_R_groupAmount_1 ?_
  refine lv_iload_n hx hb d_R_groupAmount_4 rfl (lv_at hl 1 rfl) ?_
  obtain ⟨hi, hw⟩ := hw
  refine va_lald hx hb hK hP 1 1 rfl rfl hi d_R_groupAmount_5 ?_
  exact W.lret (v := (v_groupAmounts p0.toNatClampNeg)) hx hb hr (fun t ht hW => ⟨⟨(v_groupAmounts p0.toNatClampNeg), (), rfl, hw, ⟨by rw [ht]; exact hP, hD⟩⟩, hS.F ht⟩) hS.2.2 d_R_groupAmount_6
/-! ConsolidationDesk$Report.stepAmount(III)J -/
abbrev y_R_stepAmount : MethodName := ⟨"ConsolidationDesk$Report", "stepAmount", "(III)J"⟩
theorem d_R_stepAmount_0 : decode prog_3_method_11_code 0 = .ok (.aload_n 0, 1) := by decide +kernel
theorem d_R_stepAmount_1 : decode prog_3_method_11_code 1 = .ok (.getfield 26, 3) := by decide +kernel
theorem d_R_stepAmount_4 : decode prog_3_method_11_code 4 = .ok (.iload_n 1, 1) := by decide +kernel
theorem d_R_stepAmount_5 : decode prog_3_method_11_code 5 = .ok (.iload_n 2, 1) := by decide +kernel
theorem d_R_stepAmount_6 : decode prog_3_method_11_code 6 = .ok (.iload_n 3, 1) := by decide +kernel
theorem d_R_stepAmount_7 : decode prog_3_method_11_code 7 = .ok (.invokestatic 52, 3) := by decide +kernel
theorem d_R_stepAmount_10 : decode prog_3_method_11_code 10 = .ok (.laload, 1) := by decide +kernel
theorem d_R_stepAmount_11 : decode prog_3_method_11_code 11 = .ok (.lreturn, 1) := by decide +kernel
abbrev WS_R_stepAmount (cI cL cZ : ClassId)  (h0 a_amounts a_stepAmounts a_groupAmounts a_outsidersCredits a_openPlaces : Nat) (v_made : Int32) (v_companies : Int32) (v_accounts : Int32) (v_open : Int32) (v_stepAmounts : (Nat → Int64)) : va_W := [(h0, .inr (1, [.int v_made, .int v_companies, .int v_accounts, .ref a_amounts, .ref a_stepAmounts, .ref a_groupAmounts, .ref a_outsidersCredits, .ref a_openPlaces, .int v_open])), (a_stepAmounts, .inl (cL, 432, .inr (.inl v_stepAmounts)))]
def wp_R_stepAmount  (p0 : Int32) (p1 : Int32) (p2 : Int32) (v_stepAmounts : (Nat → Int64)) (post : Int64 → Unit → Prop) : Prop := (wp_R_stepPlace p0 p1 p2 (fun (r7 : Int32) (u7 : Unit) => (vp_in r7 432 ∧ post (v_stepAmounts r7.toNatClampNeg) ())))
abbrev ws_R_stepAmount : List Cond := .code y_R_stepAmount prog_3_method_11_code 4 (some .long) :: kxW
abbrev rm_R_stepAmount : Room := { frames := 1, cells := 0, slots := 0, locals := 22 }
abbrev QC_R_stepAmount (dC : Nat → ClassId) (dI : Nat → Nat → Nat) (cI cL cZ : ClassId) (A : Nat → Prop)  (h0 a_amounts a_stepAmounts a_groupAmounts a_outsidersCredits a_openPlaces : Nat) (v_made : Int32) (v_companies : Int32) (v_accounts : Int32) (v_open : Int32) (v_stepAmounts : (Nat → Int64)) (post : Int64 → Unit → Prop) : Array Value → State → Outcome → State → Prop := va_Ql post (fun (u : Unit) t => kx_B (dC, dI) classes A (WS_R_stepAmount cI cL cZ h0 a_amounts a_stepAmounts a_groupAmounts a_outsidersCredits a_openPlaces v_made v_companies v_accounts v_open v_stepAmounts) t) A
set_option maxHeartbeats 4000000 in
set_option maxRecDepth 100000 in
theorem c_R_stepAmount (l : Launch) (dC : Nat → ClassId) (dI : Nat → Nat → Nat) (cI cL cZ : ClassId)  (h0 a_amounts a_stepAmounts a_groupAmounts a_outsidersCredits a_openPlaces : Nat) (v_made : Int32) (v_companies : Int32) (v_accounts : Int32) (v_open : Int32) (v_stepAmounts : (Nat → Int64)) (sz : Nat) (p0 : Int32) (p1 : Int32) (p2 : Int32) {post : Int64 → Unit → Prop} (hw : wp_R_stepAmount p0 p1 p2 v_stepAmounts post) : Met l y_R_stepAmount ws_R_stepAmount rm_R_stepAmount (kx_Pc (dC, dI) classes (kx_T cI cL cZ) (WS_R_stepAmount cI cL cZ h0 a_amounts a_stepAmounts a_groupAmounts a_outsidersCredits a_openPlaces v_made v_companies v_accounts v_open v_stepAmounts) sz [.ref h0, .int p0, .int p1, .int p2]) (QC_R_stepAmount dC dI cI cL cZ (va_A (WS_R_stepAmount cI cL cZ h0 a_amounts a_stepAmounts a_groupAmounts a_outsidersCredits a_openPlaces v_made v_companies v_accounts v_open v_stepAmounts) sz) h0 a_amounts a_stepAmounts a_groupAmounts a_outsidersCredits a_openPlaces v_made v_companies v_accounts v_open v_stepAmounts post) 0 0 (va_A (WS_R_stepAmount cI cL cZ h0 a_amounts a_stepAmounts a_groupAmounts a_outsidersCredits a_openPlaces v_made v_companies v_accounts v_open v_stepAmounts) sz) := by
  refine Met.ofW (cc := prog_3_method_11_code) (maxL := 4) (ret := (some .long)) (by decide) rfl ?_
  intro p e s m args below meth c s₁ B hml hv
  obtain ⟨rfl, hsz, hP, hK, hD0, hN⟩ := hv
  have hx := B.exec
  have hb := B.bytes
  have hr := B.returns
  have hts := atoms_spec (ws := ws_R_stepAmount) B.pre
  have hown : s.vm.findClass R_R = some m.cls := findClass_of_methodNamed B.named
  have hlocks := B.notSynchronized
  subst hsz
  have hD := hD0.self (sz := s.heap.size)
  generalize hAe : va_A (WS_R_stepAmount cI cL cZ h0 a_amounts a_stepAmounts a_groupAmounts a_outsidersCredits a_openPlaces v_made v_companies v_accounts v_open v_stepAmounts) s.heap.size = A at hD ⊢
  have hA : ∀ q : Nat, s.heap.size ≤ q → A q := fun q h => by rw [← hAe]; exact Or.inr h
  have hS : va_S A s.heap s.heap [] := va_S.rf
  have hP : va_P (dC, dI) classes (WS_R_stepAmount cI cL cZ h0 a_amounts a_stepAmounts a_groupAmounts a_outsidersCredits a_openPlaces v_made v_companies v_accounts v_open v_stepAmounts) s.heap := hP
  have hl := lv_entry ([.ref h0, .int p0, .int p1, .int p2]) (n := 4) (Nat.le_of_ble_eq_true rfl)
  rw [lg_entry_eq]
  generalize (lg_sl ([.ref h0, .int p0, .int p1, .int p2]) ++ List.replicate (4 - (lg_sl ([.ref h0, .int p0, .int p1, .int p2])).length) Slot.unset).toArray = ls at hl ⊢
  have hl : lv_has ls 4 [(0, .ref h0), (1, .int p0), (2, .int p1), (3, .int p2)] := hl
  unfold wp_R_stepAmount at hw
  refine (show ∀ (H : Heap) (locs : List Loc), va_P (dC, dI) classes (WS_R_stepAmount cI cL cZ h0 a_amounts a_stepAmounts a_groupAmounts a_outsidersCredits a_openPlaces v_made v_companies v_accounts v_open v_stepAmounts) H → va_S A s.heap H locs → W p l e (headSpec ws_R_stepAmount rm_R_stepAmount).room s m ([.ref h0, .int p0, .int p1, .int p2] : List Value).toArray below meth c H locs 0 0 (MQ below (QC_R_stepAmount dC dI cI cL cZ A h0 a_amounts a_stepAmounts a_groupAmounts a_outsidersCredits a_openPlaces v_made v_companies v_accounts v_open v_stepAmounts post) ([.ref h0, .int p0, .int p1, .int p2] : List Value).toArray s 0 0 A) (F0 m 0 ls []) from ?_) _ _ hP hS
  intro H locs hP hS
  refine lv_aload_n hx hb d_R_stepAmount_0 rfl (lv_at hl 0 rfl) ?_
  refine va_get (D := (dC, dI)) (ci := 1) (v := .ref a_stepAmounts) (C := R_R) (T := F_R) (N := 9) hx hb hts (kx_in in_R) hown hK hP 0 rfl rfl 4 (by decide) (hts _ (kx_w iw_60)) (fun _ h9 => h9) rfl d_R_stepAmount_1 ?_
  refine lv_iload_n hx hb d_R_stepAmount_4 rfl (lv_at hl 1 rfl) ?_
  refine lv_iload_n hx hb d_R_stepAmount_5 rfl (lv_at hl 2 rfl) ?_
  refine lv_iload_n hx hb d_R_stepAmount_6 rfl (lv_at hl 3 rfl) ?_
  refine kx_calli (ws' := fun u7 => (WS_R_stepAmount cI cL cZ h0 a_amounts a_stepAmounts a_groupAmounts a_outsidersCredits a_openPlaces v_made v_companies v_accounts v_open v_stepAmounts)) (va_runS (As := [.int p0, .int p1, .int p2]) (rest := [.ref a_stepAmounts]) ⟨hx, hb, hml, hown, hts⟩ (c_R_stepPlace l dC dI cI cL cZ  H.size p0 p1 p2 hw) ⟨(callB_of 3 hts (kx_good iw_295) rfl rfl rfl (hts _ (kx_w iw_3)) (hts _ (kx_w iw_293)) (by decide +kernel) ⟨Nat.le_of_ble_eq_true rfl, Nat.le_of_ble_eq_true rfl⟩), (hts _ (kx_w iw_294))⟩ (kx_preS hN hK hP hD [] (by decide) rfl) rfl rfl hl.1 rfl (lv_room (Nat.le_of_ble_eq_true rfl)) d_R_stepAmount_7 ⟨Nat.le_of_ble_eq_true rfl, Nat.le_of_ble_eq_true rfl⟩) hP hD hS hA [] [0, 1] rfl rfl (by decide) (by decide) [0, 1] (by decide) (fun _ => rfl) (fun r7 u7 H locs hw hP hD hS => ?_)
  have hP : va_P (dC, dI) classes (WS_R_stepAmount cI cL cZ h0 a_amounts a_stepAmounts a_groupAmounts a_outsidersCredits a_openPlaces v_made v_companies v_accounts v_open v_stepAmounts) H := hP
  have hD : va_D A (WS_R_stepAmount cI cL cZ h0 a_amounts a_stepAmounts a_groupAmounts a_outsidersCredits a_openPlaces v_made v_companies v_accounts v_open v_stepAmounts) := hD
  obtain ⟨hi, hw⟩ := hw
  refine va_lald hx hb hK hP 1 1 rfl rfl hi d_R_stepAmount_10 ?_
  exact W.lret (v := (v_stepAmounts r7.toNatClampNeg)) hx hb hr (fun t ht hW => ⟨⟨(v_stepAmounts r7.toNatClampNeg), (), rfl, hw, ⟨by rw [ht]; exact hP, hD⟩⟩, hS.F ht⟩) hS.2.2 d_R_stepAmount_11
/-! ConsolidationDesk$Report.outsidersCredit(I)J -/
abbrev y_R_outsidersCredit : MethodName := ⟨"ConsolidationDesk$Report", "outsidersCredit", "(I)J"⟩
theorem d_R_outsidersCredit_0 : decode prog_3_method_12_code 0 = .ok (.aload_n 0, 1) := by decide +kernel
theorem d_R_outsidersCredit_1 : decode prog_3_method_12_code 1 = .ok (.getfield 32, 3) := by decide +kernel
theorem d_R_outsidersCredit_4 : decode prog_3_method_12_code 4 = .ok (.iload_n 1, 1) := by decide +kernel
theorem d_R_outsidersCredit_5 : decode prog_3_method_12_code 5 = .ok (.laload, 1) := by decide +kernel
theorem d_R_outsidersCredit_6 : decode prog_3_method_12_code 6 = .ok (.lreturn, 1) := by decide +kernel
abbrev WS_R_outsidersCredit (cI cL cZ : ClassId)  (h0 a_amounts a_stepAmounts a_groupAmounts a_outsidersCredits a_openPlaces : Nat) (v_made : Int32) (v_companies : Int32) (v_accounts : Int32) (v_open : Int32) (v_outsidersCredits : (Nat → Int64)) : va_W := [(h0, .inr (1, [.int v_made, .int v_companies, .int v_accounts, .ref a_amounts, .ref a_stepAmounts, .ref a_groupAmounts, .ref a_outsidersCredits, .ref a_openPlaces, .int v_open])), (a_outsidersCredits, .inl (cL, 12, .inr (.inl v_outsidersCredits)))]
def wp_R_outsidersCredit  (p0 : Int32) (v_outsidersCredits : (Nat → Int64)) (post : Int64 → Unit → Prop) : Prop := (vp_in p0 12 ∧ post (v_outsidersCredits p0.toNatClampNeg) ())
abbrev ws_R_outsidersCredit : List Cond := .code y_R_outsidersCredit prog_3_method_12_code 2 (some .long) :: kxW
abbrev rm_R_outsidersCredit : Room := { frames := 0, cells := 0, slots := 0, locals := 0 }
abbrev QC_R_outsidersCredit (dC : Nat → ClassId) (dI : Nat → Nat → Nat) (cI cL cZ : ClassId) (A : Nat → Prop)  (h0 a_amounts a_stepAmounts a_groupAmounts a_outsidersCredits a_openPlaces : Nat) (v_made : Int32) (v_companies : Int32) (v_accounts : Int32) (v_open : Int32) (v_outsidersCredits : (Nat → Int64)) (post : Int64 → Unit → Prop) : Array Value → State → Outcome → State → Prop := va_Ql post (fun (u : Unit) t => kx_B (dC, dI) classes A (WS_R_outsidersCredit cI cL cZ h0 a_amounts a_stepAmounts a_groupAmounts a_outsidersCredits a_openPlaces v_made v_companies v_accounts v_open v_outsidersCredits) t) A
set_option maxHeartbeats 4000000 in
set_option maxRecDepth 100000 in
theorem c_R_outsidersCredit (l : Launch) (dC : Nat → ClassId) (dI : Nat → Nat → Nat) (cI cL cZ : ClassId)  (h0 a_amounts a_stepAmounts a_groupAmounts a_outsidersCredits a_openPlaces : Nat) (v_made : Int32) (v_companies : Int32) (v_accounts : Int32) (v_open : Int32) (v_outsidersCredits : (Nat → Int64)) (sz : Nat) (p0 : Int32) {post : Int64 → Unit → Prop} (hw : wp_R_outsidersCredit p0 v_outsidersCredits post) : Met l y_R_outsidersCredit ws_R_outsidersCredit rm_R_outsidersCredit (kx_Pc (dC, dI) classes (kx_T cI cL cZ) (WS_R_outsidersCredit cI cL cZ h0 a_amounts a_stepAmounts a_groupAmounts a_outsidersCredits a_openPlaces v_made v_companies v_accounts v_open v_outsidersCredits) sz [.ref h0, .int p0]) (QC_R_outsidersCredit dC dI cI cL cZ (va_A (WS_R_outsidersCredit cI cL cZ h0 a_amounts a_stepAmounts a_groupAmounts a_outsidersCredits a_openPlaces v_made v_companies v_accounts v_open v_outsidersCredits) sz) h0 a_amounts a_stepAmounts a_groupAmounts a_outsidersCredits a_openPlaces v_made v_companies v_accounts v_open v_outsidersCredits post) 0 0 (va_A (WS_R_outsidersCredit cI cL cZ h0 a_amounts a_stepAmounts a_groupAmounts a_outsidersCredits a_openPlaces v_made v_companies v_accounts v_open v_outsidersCredits) sz) := by
  refine Met.ofW (cc := prog_3_method_12_code) (maxL := 2) (ret := (some .long)) (by decide) rfl ?_
  intro p e s m args below meth c s₁ B hml hv
  obtain ⟨rfl, hsz, hP, hK, hD0, hN⟩ := hv
  have hx := B.exec
  have hb := B.bytes
  have hr := B.returns
  have hts := atoms_spec (ws := ws_R_outsidersCredit) B.pre
  have hown : s.vm.findClass R_R = some m.cls := findClass_of_methodNamed B.named
  have hlocks := B.notSynchronized
  subst hsz
  have hD := hD0.self (sz := s.heap.size)
  generalize hAe : va_A (WS_R_outsidersCredit cI cL cZ h0 a_amounts a_stepAmounts a_groupAmounts a_outsidersCredits a_openPlaces v_made v_companies v_accounts v_open v_outsidersCredits) s.heap.size = A at hD ⊢
  have hA : ∀ q : Nat, s.heap.size ≤ q → A q := fun q h => by rw [← hAe]; exact Or.inr h
  have hS : va_S A s.heap s.heap [] := va_S.rf
  have hP : va_P (dC, dI) classes (WS_R_outsidersCredit cI cL cZ h0 a_amounts a_stepAmounts a_groupAmounts a_outsidersCredits a_openPlaces v_made v_companies v_accounts v_open v_outsidersCredits) s.heap := hP
  have hl := lv_entry ([.ref h0, .int p0]) (n := 2) (Nat.le_of_ble_eq_true rfl)
  rw [lg_entry_eq]
  generalize (lg_sl ([.ref h0, .int p0]) ++ List.replicate (2 - (lg_sl ([.ref h0, .int p0])).length) Slot.unset).toArray = ls at hl ⊢
  have hl : lv_has ls 2 [(0, .ref h0), (1, .int p0)] := hl
  unfold wp_R_outsidersCredit at hw
  refine (show ∀ (H : Heap) (locs : List Loc), va_P (dC, dI) classes (WS_R_outsidersCredit cI cL cZ h0 a_amounts a_stepAmounts a_groupAmounts a_outsidersCredits a_openPlaces v_made v_companies v_accounts v_open v_outsidersCredits) H → va_S A s.heap H locs → W p l e (headSpec ws_R_outsidersCredit rm_R_outsidersCredit).room s m ([.ref h0, .int p0] : List Value).toArray below meth c H locs 0 0 (MQ below (QC_R_outsidersCredit dC dI cI cL cZ A h0 a_amounts a_stepAmounts a_groupAmounts a_outsidersCredits a_openPlaces v_made v_companies v_accounts v_open v_outsidersCredits post) ([.ref h0, .int p0] : List Value).toArray s 0 0 A) (F0 m 0 ls []) from ?_) _ _ hP hS
  intro H locs hP hS
  refine lv_aload_n hx hb d_R_outsidersCredit_0 rfl (lv_at hl 0 rfl) ?_
  refine va_get (D := (dC, dI)) (ci := 1) (v := .ref a_outsidersCredits) (C := R_R) (T := F_R) (N := 9) hx hb hts (kx_in in_R) hown hK hP 0 rfl rfl 6 (by decide) (hts _ (kx_w iw_62)) (fun _ h9 => h9) rfl d_R_outsidersCredit_1 ?_
  refine lv_iload_n hx hb d_R_outsidersCredit_4 rfl (lv_at hl 1 rfl) ?_
  obtain ⟨hi, hw⟩ := hw
  refine va_lald hx hb hK hP 1 1 rfl rfl hi d_R_outsidersCredit_5 ?_
  exact W.lret (v := (v_outsidersCredits p0.toNatClampNeg)) hx hb hr (fun t ht hW => ⟨⟨(v_outsidersCredits p0.toNatClampNeg), (), rfl, hw, ⟨by rw [ht]; exact hP, hD⟩⟩, hS.F ht⟩) hS.2.2 d_R_outsidersCredit_6
/-! ConsolidationDesk$Report.openCount()I -/
abbrev y_R_openCount : MethodName := ⟨"ConsolidationDesk$Report", "openCount", "()I"⟩
theorem d_R_openCount_0 : decode prog_3_method_13_code 0 = .ok (.aload_n 0, 1) := by decide +kernel
theorem d_R_openCount_1 : decode prog_3_method_13_code 1 = .ok (.getfield 39, 3) := by decide +kernel
theorem d_R_openCount_4 : decode prog_3_method_13_code 4 = .ok (.ireturn, 1) := by decide +kernel
abbrev WS_R_openCount (cI cL cZ : ClassId)  (h0 a_amounts a_stepAmounts a_groupAmounts a_outsidersCredits a_openPlaces : Nat) (v_made : Int32) (v_companies : Int32) (v_accounts : Int32) (v_open : Int32) : va_W := [(h0, .inr (1, [.int v_made, .int v_companies, .int v_accounts, .ref a_amounts, .ref a_stepAmounts, .ref a_groupAmounts, .ref a_outsidersCredits, .ref a_openPlaces, .int v_open]))]
def wp_R_openCount   (v_open : Int32) (post : Int32 → Unit → Prop) : Prop := post v_open ()
abbrev ws_R_openCount : List Cond := .code y_R_openCount prog_3_method_13_code 1 (some .int) :: kxW
abbrev rm_R_openCount : Room := { frames := 0, cells := 0, slots := 0, locals := 0 }
abbrev QC_R_openCount (dC : Nat → ClassId) (dI : Nat → Nat → Nat) (cI cL cZ : ClassId) (A : Nat → Prop)  (h0 a_amounts a_stepAmounts a_groupAmounts a_outsidersCredits a_openPlaces : Nat) (v_made : Int32) (v_companies : Int32) (v_accounts : Int32) (v_open : Int32) (post : Int32 → Unit → Prop) : Array Value → State → Outcome → State → Prop := va_Qi post (fun (u : Unit) t => kx_B (dC, dI) classes A (WS_R_openCount cI cL cZ h0 a_amounts a_stepAmounts a_groupAmounts a_outsidersCredits a_openPlaces v_made v_companies v_accounts v_open) t) A
set_option maxHeartbeats 4000000 in
set_option maxRecDepth 100000 in
theorem c_R_openCount (l : Launch) (dC : Nat → ClassId) (dI : Nat → Nat → Nat) (cI cL cZ : ClassId)  (h0 a_amounts a_stepAmounts a_groupAmounts a_outsidersCredits a_openPlaces : Nat) (v_made : Int32) (v_companies : Int32) (v_accounts : Int32) (v_open : Int32) (sz : Nat)  {post : Int32 → Unit → Prop} (hw : wp_R_openCount v_open post) : Met l y_R_openCount ws_R_openCount rm_R_openCount (kx_Pc (dC, dI) classes (kx_T cI cL cZ) (WS_R_openCount cI cL cZ h0 a_amounts a_stepAmounts a_groupAmounts a_outsidersCredits a_openPlaces v_made v_companies v_accounts v_open) sz [.ref h0]) (QC_R_openCount dC dI cI cL cZ (va_A (WS_R_openCount cI cL cZ h0 a_amounts a_stepAmounts a_groupAmounts a_outsidersCredits a_openPlaces v_made v_companies v_accounts v_open) sz) h0 a_amounts a_stepAmounts a_groupAmounts a_outsidersCredits a_openPlaces v_made v_companies v_accounts v_open post) 0 0 (va_A (WS_R_openCount cI cL cZ h0 a_amounts a_stepAmounts a_groupAmounts a_outsidersCredits a_openPlaces v_made v_companies v_accounts v_open) sz) := by
  refine Met.ofW (cc := prog_3_method_13_code) (maxL := 1) (ret := (some .int)) (by decide) rfl ?_
  intro p e s m args below meth c s₁ B hml hv
  obtain ⟨rfl, hsz, hP, hK, hD0, hN⟩ := hv
  have hx := B.exec
  have hb := B.bytes
  have hr := B.returns
  have hts := atoms_spec (ws := ws_R_openCount) B.pre
  have hown : s.vm.findClass R_R = some m.cls := findClass_of_methodNamed B.named
  have hlocks := B.notSynchronized
  subst hsz
  have hD := hD0.self (sz := s.heap.size)
  generalize hAe : va_A (WS_R_openCount cI cL cZ h0 a_amounts a_stepAmounts a_groupAmounts a_outsidersCredits a_openPlaces v_made v_companies v_accounts v_open) s.heap.size = A at hD ⊢
  have hA : ∀ q : Nat, s.heap.size ≤ q → A q := fun q h => by rw [← hAe]; exact Or.inr h
  have hS : va_S A s.heap s.heap [] := va_S.rf
  have hP : va_P (dC, dI) classes (WS_R_openCount cI cL cZ h0 a_amounts a_stepAmounts a_groupAmounts a_outsidersCredits a_openPlaces v_made v_companies v_accounts v_open) s.heap := hP
  have hl := lv_entry ([.ref h0]) (n := 1) (Nat.le_of_ble_eq_true rfl)
  rw [lg_entry_eq]
  generalize (lg_sl ([.ref h0]) ++ List.replicate (1 - (lg_sl ([.ref h0])).length) Slot.unset).toArray = ls at hl ⊢
  have hl : lv_has ls 1 [(0, .ref h0)] := hl
  unfold wp_R_openCount at hw
  refine (show ∀ (H : Heap) (locs : List Loc), va_P (dC, dI) classes (WS_R_openCount cI cL cZ h0 a_amounts a_stepAmounts a_groupAmounts a_outsidersCredits a_openPlaces v_made v_companies v_accounts v_open) H → va_S A s.heap H locs → W p l e (headSpec ws_R_openCount rm_R_openCount).room s m ([.ref h0] : List Value).toArray below meth c H locs 0 0 (MQ below (QC_R_openCount dC dI cI cL cZ A h0 a_amounts a_stepAmounts a_groupAmounts a_outsidersCredits a_openPlaces v_made v_companies v_accounts v_open post) ([.ref h0] : List Value).toArray s 0 0 A) (F0 m 0 ls []) from ?_) _ _ hP hS
  intro H locs hP hS
  refine lv_aload_n hx hb d_R_openCount_0 rfl (lv_at hl 0 rfl) ?_
  refine va_get (D := (dC, dI)) (ci := 1) (v := .int v_open) (C := R_R) (T := F_R) (N := 9) hx hb hts (kx_in in_R) hown hK hP 0 rfl rfl 8 (by decide) (hts _ (kx_w iw_64)) (fun _ h9 => h9) rfl d_R_openCount_1 ?_
  exact W.iret (v := v_open) hx hb hr (fun t ht hW => ⟨⟨v_open, (), rfl, hw, ⟨by rw [ht]; exact hP, hD⟩⟩, hS.F ht⟩) hS.2.2 d_R_openCount_4
/-! ConsolidationDesk$Report.openCompany(I)I -/
abbrev y_R_openCompany : MethodName := ⟨"ConsolidationDesk$Report", "openCompany", "(I)I"⟩
theorem d_R_openCompany_0 : decode prog_3_method_14_code 0 = .ok (.aload_n 0, 1) := by decide +kernel
theorem d_R_openCompany_1 : decode prog_3_method_14_code 1 = .ok (.getfield 35, 3) := by decide +kernel
theorem d_R_openCompany_4 : decode prog_3_method_14_code 4 = .ok (.iload_n 1, 1) := by decide +kernel
theorem d_R_openCompany_5 : decode prog_3_method_14_code 5 = .ok (.iaload, 1) := by decide +kernel
theorem d_R_openCompany_6 : decode prog_3_method_14_code 6 = .ok (.sipush 156, 3) := by decide +kernel
theorem d_R_openCompany_9 : decode prog_3_method_14_code 9 = .ok (.idiv, 1) := by decide +kernel
theorem d_R_openCompany_10 : decode prog_3_method_14_code 10 = .ok (.ireturn, 1) := by decide +kernel
abbrev WS_R_openCompany (cI cL cZ : ClassId)  (h0 a_amounts a_stepAmounts a_groupAmounts a_outsidersCredits a_openPlaces : Nat) (v_made : Int32) (v_companies : Int32) (v_accounts : Int32) (v_open : Int32) (v_openPlaces : (Nat → Int32)) : va_W := [(h0, .inr (1, [.int v_made, .int v_companies, .int v_accounts, .ref a_amounts, .ref a_stepAmounts, .ref a_groupAmounts, .ref a_outsidersCredits, .ref a_openPlaces, .int v_open])), (a_openPlaces, .inl (cI, 1584, .inl v_openPlaces))]
def wp_R_openCompany  (p0 : Int32) (v_openPlaces : (Nat → Int32)) (post : Int32 → Unit → Prop) : Prop := (vp_in p0 1584 ∧ post ((v_openPlaces p0.toNatClampNeg) / 156) ())
abbrev ws_R_openCompany : List Cond := .code y_R_openCompany prog_3_method_14_code 2 (some .int) :: kxW
abbrev rm_R_openCompany : Room := { frames := 0, cells := 0, slots := 0, locals := 0 }
abbrev QC_R_openCompany (dC : Nat → ClassId) (dI : Nat → Nat → Nat) (cI cL cZ : ClassId) (A : Nat → Prop)  (h0 a_amounts a_stepAmounts a_groupAmounts a_outsidersCredits a_openPlaces : Nat) (v_made : Int32) (v_companies : Int32) (v_accounts : Int32) (v_open : Int32) (v_openPlaces : (Nat → Int32)) (post : Int32 → Unit → Prop) : Array Value → State → Outcome → State → Prop := va_Qi post (fun (u : Unit) t => kx_B (dC, dI) classes A (WS_R_openCompany cI cL cZ h0 a_amounts a_stepAmounts a_groupAmounts a_outsidersCredits a_openPlaces v_made v_companies v_accounts v_open v_openPlaces) t) A
set_option maxHeartbeats 4000000 in
set_option maxRecDepth 100000 in
theorem c_R_openCompany (l : Launch) (dC : Nat → ClassId) (dI : Nat → Nat → Nat) (cI cL cZ : ClassId)  (h0 a_amounts a_stepAmounts a_groupAmounts a_outsidersCredits a_openPlaces : Nat) (v_made : Int32) (v_companies : Int32) (v_accounts : Int32) (v_open : Int32) (v_openPlaces : (Nat → Int32)) (sz : Nat) (p0 : Int32) {post : Int32 → Unit → Prop} (hw : wp_R_openCompany p0 v_openPlaces post) : Met l y_R_openCompany ws_R_openCompany rm_R_openCompany (kx_Pc (dC, dI) classes (kx_T cI cL cZ) (WS_R_openCompany cI cL cZ h0 a_amounts a_stepAmounts a_groupAmounts a_outsidersCredits a_openPlaces v_made v_companies v_accounts v_open v_openPlaces) sz [.ref h0, .int p0]) (QC_R_openCompany dC dI cI cL cZ (va_A (WS_R_openCompany cI cL cZ h0 a_amounts a_stepAmounts a_groupAmounts a_outsidersCredits a_openPlaces v_made v_companies v_accounts v_open v_openPlaces) sz) h0 a_amounts a_stepAmounts a_groupAmounts a_outsidersCredits a_openPlaces v_made v_companies v_accounts v_open v_openPlaces post) 0 0 (va_A (WS_R_openCompany cI cL cZ h0 a_amounts a_stepAmounts a_groupAmounts a_outsidersCredits a_openPlaces v_made v_companies v_accounts v_open v_openPlaces) sz) := by
  refine Met.ofW (cc := prog_3_method_14_code) (maxL := 2) (ret := (some .int)) (by decide) rfl ?_
  intro p e s m args below meth c s₁ B hml hv
  obtain ⟨rfl, hsz, hP, hK, hD0, hN⟩ := hv
  have hx := B.exec
  have hb := B.bytes
  have hr := B.returns
  have hts := atoms_spec (ws := ws_R_openCompany) B.pre
  have hown : s.vm.findClass R_R = some m.cls := findClass_of_methodNamed B.named
  have hlocks := B.notSynchronized
  subst hsz
  have hD := hD0.self (sz := s.heap.size)
  generalize hAe : va_A (WS_R_openCompany cI cL cZ h0 a_amounts a_stepAmounts a_groupAmounts a_outsidersCredits a_openPlaces v_made v_companies v_accounts v_open v_openPlaces) s.heap.size = A at hD ⊢
  have hA : ∀ q : Nat, s.heap.size ≤ q → A q := fun q h => by rw [← hAe]; exact Or.inr h
  have hS : va_S A s.heap s.heap [] := va_S.rf
  have hP : va_P (dC, dI) classes (WS_R_openCompany cI cL cZ h0 a_amounts a_stepAmounts a_groupAmounts a_outsidersCredits a_openPlaces v_made v_companies v_accounts v_open v_openPlaces) s.heap := hP
  have hl := lv_entry ([.ref h0, .int p0]) (n := 2) (Nat.le_of_ble_eq_true rfl)
  rw [lg_entry_eq]
  generalize (lg_sl ([.ref h0, .int p0]) ++ List.replicate (2 - (lg_sl ([.ref h0, .int p0])).length) Slot.unset).toArray = ls at hl ⊢
  have hl : lv_has ls 2 [(0, .ref h0), (1, .int p0)] := hl
  unfold wp_R_openCompany at hw
  refine (show ∀ (H : Heap) (locs : List Loc), va_P (dC, dI) classes (WS_R_openCompany cI cL cZ h0 a_amounts a_stepAmounts a_groupAmounts a_outsidersCredits a_openPlaces v_made v_companies v_accounts v_open v_openPlaces) H → va_S A s.heap H locs → W p l e (headSpec ws_R_openCompany rm_R_openCompany).room s m ([.ref h0, .int p0] : List Value).toArray below meth c H locs 0 0 (MQ below (QC_R_openCompany dC dI cI cL cZ A h0 a_amounts a_stepAmounts a_groupAmounts a_outsidersCredits a_openPlaces v_made v_companies v_accounts v_open v_openPlaces post) ([.ref h0, .int p0] : List Value).toArray s 0 0 A) (F0 m 0 ls []) from ?_) _ _ hP hS
  intro H locs hP hS
  refine lv_aload_n hx hb d_R_openCompany_0 rfl (lv_at hl 0 rfl) ?_
  refine va_get (D := (dC, dI)) (ci := 1) (v := .ref a_openPlaces) (C := R_R) (T := F_R) (N := 9) hx hb hts (kx_in in_R) hown hK hP 0 rfl rfl 7 (by decide) (hts _ (kx_w iw_63)) (fun _ h9 => h9) rfl d_R_openCompany_1 ?_
  refine lv_iload_n hx hb d_R_openCompany_4 rfl (lv_at hl 1 rfl) ?_
  obtain ⟨hi, hw⟩ := hw
  refine va_iald hx hb hK hP 1 0 rfl rfl hi d_R_openCompany_5 ?_
  refine lv_sipush (v := 156) hx hb d_R_openCompany_6 (by decide) ?_
  refine lv_idiv hx hb d_R_openCompany_9 (by decide) ?_
  exact W.iret (v := ((v_openPlaces p0.toNatClampNeg) / 156)) hx hb hr (fun t ht hW => ⟨⟨((v_openPlaces p0.toNatClampNeg) / 156), (), rfl, hw, ⟨by rw [ht]; exact hP, hD⟩⟩, hS.F ht⟩) hS.2.2 d_R_openCompany_10
/-! ConsolidationDesk$Report.openPartner(I)I -/
abbrev y_R_openPartner : MethodName := ⟨"ConsolidationDesk$Report", "openPartner", "(I)I"⟩
theorem d_R_openPartner_0 : decode prog_3_method_15_code 0 = .ok (.aload_n 0, 1) := by decide +kernel
theorem d_R_openPartner_1 : decode prog_3_method_15_code 1 = .ok (.getfield 35, 3) := by decide +kernel
theorem d_R_openPartner_4 : decode prog_3_method_15_code 4 = .ok (.iload_n 1, 1) := by decide +kernel
theorem d_R_openPartner_5 : decode prog_3_method_15_code 5 = .ok (.iaload, 1) := by decide +kernel
theorem d_R_openPartner_6 : decode prog_3_method_15_code 6 = .ok (.bipush 12, 2) := by decide +kernel
theorem d_R_openPartner_8 : decode prog_3_method_15_code 8 = .ok (.idiv, 1) := by decide +kernel
theorem d_R_openPartner_9 : decode prog_3_method_15_code 9 = .ok (.bipush 13, 2) := by decide +kernel
theorem d_R_openPartner_11 : decode prog_3_method_15_code 11 = .ok (.irem, 1) := by decide +kernel
theorem d_R_openPartner_12 : decode prog_3_method_15_code 12 = .ok (.iconst 1, 1) := by decide +kernel
theorem d_R_openPartner_13 : decode prog_3_method_15_code 13 = .ok (.isub, 1) := by decide +kernel
theorem d_R_openPartner_14 : decode prog_3_method_15_code 14 = .ok (.ireturn, 1) := by decide +kernel
abbrev WS_R_openPartner (cI cL cZ : ClassId)  (h0 a_amounts a_stepAmounts a_groupAmounts a_outsidersCredits a_openPlaces : Nat) (v_made : Int32) (v_companies : Int32) (v_accounts : Int32) (v_open : Int32) (v_openPlaces : (Nat → Int32)) : va_W := [(h0, .inr (1, [.int v_made, .int v_companies, .int v_accounts, .ref a_amounts, .ref a_stepAmounts, .ref a_groupAmounts, .ref a_outsidersCredits, .ref a_openPlaces, .int v_open])), (a_openPlaces, .inl (cI, 1584, .inl v_openPlaces))]
def wp_R_openPartner  (p0 : Int32) (v_openPlaces : (Nat → Int32)) (post : Int32 → Unit → Prop) : Prop := (vp_in p0 1584 ∧ post ((((v_openPlaces p0.toNatClampNeg) / 12) - ((v_openPlaces p0.toNatClampNeg) / 12) / 13 * 13) - 1) ())
abbrev ws_R_openPartner : List Cond := .code y_R_openPartner prog_3_method_15_code 2 (some .int) :: kxW
abbrev rm_R_openPartner : Room := { frames := 0, cells := 0, slots := 0, locals := 0 }
abbrev QC_R_openPartner (dC : Nat → ClassId) (dI : Nat → Nat → Nat) (cI cL cZ : ClassId) (A : Nat → Prop)  (h0 a_amounts a_stepAmounts a_groupAmounts a_outsidersCredits a_openPlaces : Nat) (v_made : Int32) (v_companies : Int32) (v_accounts : Int32) (v_open : Int32) (v_openPlaces : (Nat → Int32)) (post : Int32 → Unit → Prop) : Array Value → State → Outcome → State → Prop := va_Qi post (fun (u : Unit) t => kx_B (dC, dI) classes A (WS_R_openPartner cI cL cZ h0 a_amounts a_stepAmounts a_groupAmounts a_outsidersCredits a_openPlaces v_made v_companies v_accounts v_open v_openPlaces) t) A
set_option maxHeartbeats 4000000 in
set_option maxRecDepth 100000 in
theorem c_R_openPartner (l : Launch) (dC : Nat → ClassId) (dI : Nat → Nat → Nat) (cI cL cZ : ClassId)  (h0 a_amounts a_stepAmounts a_groupAmounts a_outsidersCredits a_openPlaces : Nat) (v_made : Int32) (v_companies : Int32) (v_accounts : Int32) (v_open : Int32) (v_openPlaces : (Nat → Int32)) (sz : Nat) (p0 : Int32) {post : Int32 → Unit → Prop} (hw : wp_R_openPartner p0 v_openPlaces post) : Met l y_R_openPartner ws_R_openPartner rm_R_openPartner (kx_Pc (dC, dI) classes (kx_T cI cL cZ) (WS_R_openPartner cI cL cZ h0 a_amounts a_stepAmounts a_groupAmounts a_outsidersCredits a_openPlaces v_made v_companies v_accounts v_open v_openPlaces) sz [.ref h0, .int p0]) (QC_R_openPartner dC dI cI cL cZ (va_A (WS_R_openPartner cI cL cZ h0 a_amounts a_stepAmounts a_groupAmounts a_outsidersCredits a_openPlaces v_made v_companies v_accounts v_open v_openPlaces) sz) h0 a_amounts a_stepAmounts a_groupAmounts a_outsidersCredits a_openPlaces v_made v_companies v_accounts v_open v_openPlaces post) 0 0 (va_A (WS_R_openPartner cI cL cZ h0 a_amounts a_stepAmounts a_groupAmounts a_outsidersCredits a_openPlaces v_made v_companies v_accounts v_open v_openPlaces) sz) := by
  refine Met.ofW (cc := prog_3_method_15_code) (maxL := 2) (ret := (some .int)) (by decide) rfl ?_
  intro p e s m args below meth c s₁ B hml hv
  obtain ⟨rfl, hsz, hP, hK, hD0, hN⟩ := hv
  have hx := B.exec
  have hb := B.bytes
  have hr := B.returns
  have hts := atoms_spec (ws := ws_R_openPartner) B.pre
  have hown : s.vm.findClass R_R = some m.cls := findClass_of_methodNamed B.named
  have hlocks := B.notSynchronized
  subst hsz
  have hD := hD0.self (sz := s.heap.size)
  generalize hAe : va_A (WS_R_openPartner cI cL cZ h0 a_amounts a_stepAmounts a_groupAmounts a_outsidersCredits a_openPlaces v_made v_companies v_accounts v_open v_openPlaces) s.heap.size = A at hD ⊢
  have hA : ∀ q : Nat, s.heap.size ≤ q → A q := fun q h => by rw [← hAe]; exact Or.inr h
  have hS : va_S A s.heap s.heap [] := va_S.rf
  have hP : va_P (dC, dI) classes (WS_R_openPartner cI cL cZ h0 a_amounts a_stepAmounts a_groupAmounts a_outsidersCredits a_openPlaces v_made v_companies v_accounts v_open v_openPlaces) s.heap := hP
  have hl := lv_entry ([.ref h0, .int p0]) (n := 2) (Nat.le_of_ble_eq_true rfl)
  rw [lg_entry_eq]
  generalize (lg_sl ([.ref h0, .int p0]) ++ List.replicate (2 - (lg_sl ([.ref h0, .int p0])).length) Slot.unset).toArray = ls at hl ⊢
  have hl : lv_has ls 2 [(0, .ref h0), (1, .int p0)] := hl
  unfold wp_R_openPartner at hw
  refine (show ∀ (H : Heap) (locs : List Loc), va_P (dC, dI) classes (WS_R_openPartner cI cL cZ h0 a_amounts a_stepAmounts a_groupAmounts a_outsidersCredits a_openPlaces v_made v_companies v_accounts v_open v_openPlaces) H → va_S A s.heap H locs → W p l e (headSpec ws_R_openPartner rm_R_openPartner).room s m ([.ref h0, .int p0] : List Value).toArray below meth c H locs 0 0 (MQ below (QC_R_openPartner dC dI cI cL cZ A h0 a_amounts a_stepAmounts a_groupAmounts a_outsidersCredits a_openPlaces v_made v_companies v_accounts v_open v_openPlaces post) ([.ref h0, .int p0] : List Value).toArray s 0 0 A) (F0 m 0 ls []) from ?_) _ _ hP hS
  intro H locs hP hS
  refine lv_aload_n hx hb d_R_openPartner_0 rfl (lv_at hl 0 rfl) ?_
  refine va_get (D := (dC, dI)) (ci := 1) (v := .ref a_openPlaces) (C := R_R) (T := F_R) (N := 9) hx hb hts (kx_in in_R) hown hK hP 0 rfl rfl 7 (by decide) (hts _ (kx_w iw_63)) (fun _ h9 => h9) rfl d_R_openPartner_1 ?_
  refine lv_iload_n hx hb d_R_openPartner_4 rfl (lv_at hl 1 rfl) ?_
  obtain ⟨hi, hw⟩ := hw
  refine va_iald hx hb hK hP 1 0 rfl rfl hi d_R_openPartner_5 ?_
  refine lv_bipush (v := 12) hx hb d_R_openPartner_6 (by decide) ?_
  refine lv_idiv hx hb d_R_openPartner_8 (by decide) ?_
  refine lv_bipush (v := 13) hx hb d_R_openPartner_9 (by decide) ?_
  refine lv_irem hx hb d_R_openPartner_11 (by decide) ?_
  refine lv_iconst (v := 1) hx hb d_R_openPartner_12 (by decide) ?_
  refine lv_isub hx hb d_R_openPartner_13 ?_
  exact W.iret (v := ((((v_openPlaces p0.toNatClampNeg) / 12) - ((v_openPlaces p0.toNatClampNeg) / 12) / 13 * 13) - 1)) hx hb hr (fun t ht hW => ⟨⟨((((v_openPlaces p0.toNatClampNeg) / 12) - ((v_openPlaces p0.toNatClampNeg) / 12) / 13 * 13) - 1), (), rfl, hw, ⟨by rw [ht]; exact hP, hD⟩⟩, hS.F ht⟩) hS.2.2 d_R_openPartner_14
/-! ConsolidationDesk$Report.openAccount(I)I -/
abbrev y_R_openAccount : MethodName := ⟨"ConsolidationDesk$Report", "openAccount", "(I)I"⟩
theorem d_R_openAccount_0 : decode prog_3_method_16_code 0 = .ok (.aload_n 0, 1) := by decide +kernel
theorem d_R_openAccount_1 : decode prog_3_method_16_code 1 = .ok (.getfield 35, 3) := by decide +kernel
theorem d_R_openAccount_4 : decode prog_3_method_16_code 4 = .ok (.iload_n 1, 1) := by decide +kernel
theorem d_R_openAccount_5 : decode prog_3_method_16_code 5 = .ok (.iaload, 1) := by decide +kernel
theorem d_R_openAccount_6 : decode prog_3_method_16_code 6 = .ok (.bipush 12, 2) := by decide +kernel
theorem d_R_openAccount_8 : decode prog_3_method_16_code 8 = .ok (.irem, 1) := by decide +kernel
theorem d_R_openAccount_9 : decode prog_3_method_16_code 9 = .ok (.ireturn, 1) := by decide +kernel
abbrev WS_R_openAccount (cI cL cZ : ClassId)  (h0 a_amounts a_stepAmounts a_groupAmounts a_outsidersCredits a_openPlaces : Nat) (v_made : Int32) (v_companies : Int32) (v_accounts : Int32) (v_open : Int32) (v_openPlaces : (Nat → Int32)) : va_W := [(h0, .inr (1, [.int v_made, .int v_companies, .int v_accounts, .ref a_amounts, .ref a_stepAmounts, .ref a_groupAmounts, .ref a_outsidersCredits, .ref a_openPlaces, .int v_open])), (a_openPlaces, .inl (cI, 1584, .inl v_openPlaces))]
def wp_R_openAccount  (p0 : Int32) (v_openPlaces : (Nat → Int32)) (post : Int32 → Unit → Prop) : Prop := (vp_in p0 1584 ∧ post ((v_openPlaces p0.toNatClampNeg) - (v_openPlaces p0.toNatClampNeg) / 12 * 12) ())
abbrev ws_R_openAccount : List Cond := .code y_R_openAccount prog_3_method_16_code 2 (some .int) :: kxW
abbrev rm_R_openAccount : Room := { frames := 0, cells := 0, slots := 0, locals := 0 }
abbrev QC_R_openAccount (dC : Nat → ClassId) (dI : Nat → Nat → Nat) (cI cL cZ : ClassId) (A : Nat → Prop)  (h0 a_amounts a_stepAmounts a_groupAmounts a_outsidersCredits a_openPlaces : Nat) (v_made : Int32) (v_companies : Int32) (v_accounts : Int32) (v_open : Int32) (v_openPlaces : (Nat → Int32)) (post : Int32 → Unit → Prop) : Array Value → State → Outcome → State → Prop := va_Qi post (fun (u : Unit) t => kx_B (dC, dI) classes A (WS_R_openAccount cI cL cZ h0 a_amounts a_stepAmounts a_groupAmounts a_outsidersCredits a_openPlaces v_made v_companies v_accounts v_open v_openPlaces) t) A
set_option maxHeartbeats 4000000 in
set_option maxRecDepth 100000 in
theorem c_R_openAccount (l : Launch) (dC : Nat → ClassId) (dI : Nat → Nat → Nat) (cI cL cZ : ClassId)  (h0 a_amounts a_stepAmounts a_groupAmounts a_outsidersCredits a_openPlaces : Nat) (v_made : Int32) (v_companies : Int32) (v_accounts : Int32) (v_open : Int32) (v_openPlaces : (Nat → Int32)) (sz : Nat) (p0 : Int32) {post : Int32 → Unit → Prop} (hw : wp_R_openAccount p0 v_openPlaces post) : Met l y_R_openAccount ws_R_openAccount rm_R_openAccount (kx_Pc (dC, dI) classes (kx_T cI cL cZ) (WS_R_openAccount cI cL cZ h0 a_amounts a_stepAmounts a_groupAmounts a_outsidersCredits a_openPlaces v_made v_companies v_accounts v_open v_openPlaces) sz [.ref h0, .int p0]) (QC_R_openAccount dC dI cI cL cZ (va_A (WS_R_openAccount cI cL cZ h0 a_amounts a_stepAmounts a_groupAmounts a_outsidersCredits a_openPlaces v_made v_companies v_accounts v_open v_openPlaces) sz) h0 a_amounts a_stepAmounts a_groupAmounts a_outsidersCredits a_openPlaces v_made v_companies v_accounts v_open v_openPlaces post) 0 0 (va_A (WS_R_openAccount cI cL cZ h0 a_amounts a_stepAmounts a_groupAmounts a_outsidersCredits a_openPlaces v_made v_companies v_accounts v_open v_openPlaces) sz) := by
  refine Met.ofW (cc := prog_3_method_16_code) (maxL := 2) (ret := (some .int)) (by decide) rfl ?_
  intro p e s m args below meth c s₁ B hml hv
  obtain ⟨rfl, hsz, hP, hK, hD0, hN⟩ := hv
  have hx := B.exec
  have hb := B.bytes
  have hr := B.returns
  have hts := atoms_spec (ws := ws_R_openAccount) B.pre
  have hown : s.vm.findClass R_R = some m.cls := findClass_of_methodNamed B.named
  have hlocks := B.notSynchronized
  subst hsz
  have hD := hD0.self (sz := s.heap.size)
  generalize hAe : va_A (WS_R_openAccount cI cL cZ h0 a_amounts a_stepAmounts a_groupAmounts a_outsidersCredits a_openPlaces v_made v_companies v_accounts v_open v_openPlaces) s.heap.size = A at hD ⊢
  have hA : ∀ q : Nat, s.heap.size ≤ q → A q := fun q h => by rw [← hAe]; exact Or.inr h
  have hS : va_S A s.heap s.heap [] := va_S.rf
  have hP : va_P (dC, dI) classes (WS_R_openAccount cI cL cZ h0 a_amounts a_stepAmounts a_groupAmounts a_outsidersCredits a_openPlaces v_made v_companies v_accounts v_open v_openPlaces) s.heap := hP
  have hl := lv_entry ([.ref h0, .int p0]) (n := 2) (Nat.le_of_ble_eq_true rfl)
  rw [lg_entry_eq]
  generalize (lg_sl ([.ref h0, .int p0]) ++ List.replicate (2 - (lg_sl ([.ref h0, .int p0])).length) Slot.unset).toArray = ls at hl ⊢
  have hl : lv_has ls 2 [(0, .ref h0), (1, .int p0)] := hl
  unfold wp_R_openAccount at hw
  refine (show ∀ (H : Heap) (locs : List Loc), va_P (dC, dI) classes (WS_R_openAccount cI cL cZ h0 a_amounts a_stepAmounts a_groupAmounts a_outsidersCredits a_openPlaces v_made v_companies v_accounts v_open v_openPlaces) H → va_S A s.heap H locs → W p l e (headSpec ws_R_openAccount rm_R_openAccount).room s m ([.ref h0, .int p0] : List Value).toArray below meth c H locs 0 0 (MQ below (QC_R_openAccount dC dI cI cL cZ A h0 a_amounts a_stepAmounts a_groupAmounts a_outsidersCredits a_openPlaces v_made v_companies v_accounts v_open v_openPlaces post) ([.ref h0, .int p0] : List Value).toArray s 0 0 A) (F0 m 0 ls []) from ?_) _ _ hP hS
  intro H locs hP hS
  refine lv_aload_n hx hb d_R_openAccount_0 rfl (lv_at hl 0 rfl) ?_
  refine va_get (D := (dC, dI)) (ci := 1) (v := .ref a_openPlaces) (C := R_R) (T := F_R) (N := 9) hx hb hts (kx_in in_R) hown hK hP 0 rfl rfl 7 (by decide) (hts _ (kx_w iw_63)) (fun _ h9 => h9) rfl d_R_openAccount_1 ?_
  refine lv_iload_n hx hb d_R_openAccount_4 rfl (lv_at hl 1 rfl) ?_
  obtain ⟨hi, hw⟩ := hw
  refine va_iald hx hb hK hP 1 0 rfl rfl hi d_R_openAccount_5 ?_
  refine lv_bipush (v := 12) hx hb d_R_openAccount_6 (by decide) ?_
  refine lv_irem hx hb d_R_openAccount_8 (by decide) ?_
  exact W.iret (v := ((v_openPlaces p0.toNatClampNeg) - (v_openPlaces p0.toNatClampNeg) / 12 * 12)) hx hb hr (fun t ht hW => ⟨⟨((v_openPlaces p0.toNatClampNeg) - (v_openPlaces p0.toNatClampNeg) / 12 * 12), (), rfl, hw, ⟨by rw [ht]; exact hP, hD⟩⟩, hS.F ht⟩) hS.2.2 d_R_openAccount_9
/-! ConsolidationDesk$Report.openAmount(I)J -/
abbrev y_R_openAmount : MethodName := ⟨"ConsolidationDesk$Report", "openAmount", "(I)J"⟩
theorem d_R_openAmount_0 : decode prog_3_method_17_code 0 = .ok (.aload_n 0, 1) := by decide +kernel
theorem d_R_openAmount_1 : decode prog_3_method_17_code 1 = .ok (.getfield 22, 3) := by decide +kernel
theorem d_R_openAmount_4 : decode prog_3_method_17_code 4 = .ok (.aload_n 0, 1) := by decide +kernel
theorem d_R_openAmount_5 : decode prog_3_method_17_code 5 = .ok (.getfield 35, 3) := by decide +kernel
theorem d_R_openAmount_8 : decode prog_3_method_17_code 8 = .ok (.iload_n 1, 1) := by decide +kernel
theorem d_R_openAmount_9 : decode prog_3_method_17_code 9 = .ok (.iaload, 1) := by decide +kernel
theorem d_R_openAmount_10 : decode prog_3_method_17_code 10 = .ok (.laload, 1) := by decide +kernel
theorem d_R_openAmount_11 : decode prog_3_method_17_code 11 = .ok (.lreturn, 1) := by decide +kernel
abbrev WS_R_openAmount (cI cL cZ : ClassId)  (h0 a_amounts a_stepAmounts a_groupAmounts a_outsidersCredits a_openPlaces : Nat) (v_made : Int32) (v_companies : Int32) (v_accounts : Int32) (v_open : Int32) (v_amounts : (Nat → Int64)) (v_openPlaces : (Nat → Int32)) : va_W := [(h0, .inr (1, [.int v_made, .int v_companies, .int v_accounts, .ref a_amounts, .ref a_stepAmounts, .ref a_groupAmounts, .ref a_outsidersCredits, .ref a_openPlaces, .int v_open])), (a_amounts, .inl (cL, 1872, .inr (.inl v_amounts))), (a_openPlaces, .inl (cI, 1584, .inl v_openPlaces))]
def wp_R_openAmount  (p0 : Int32) (v_amounts : (Nat → Int64)) (v_openPlaces : (Nat → Int32)) (post : Int64 → Unit → Prop) : Prop := (vp_in p0 1584 ∧ (vp_in (v_openPlaces p0.toNatClampNeg) 1872 ∧ post (v_amounts (Int32.toNatClampNeg (v_openPlaces p0.toNatClampNeg))) ()))
abbrev ws_R_openAmount : List Cond := .code y_R_openAmount prog_3_method_17_code 2 (some .long) :: kxW
abbrev rm_R_openAmount : Room := { frames := 0, cells := 0, slots := 0, locals := 0 }
abbrev QC_R_openAmount (dC : Nat → ClassId) (dI : Nat → Nat → Nat) (cI cL cZ : ClassId) (A : Nat → Prop)  (h0 a_amounts a_stepAmounts a_groupAmounts a_outsidersCredits a_openPlaces : Nat) (v_made : Int32) (v_companies : Int32) (v_accounts : Int32) (v_open : Int32) (v_amounts : (Nat → Int64)) (v_openPlaces : (Nat → Int32)) (post : Int64 → Unit → Prop) : Array Value → State → Outcome → State → Prop := va_Ql post (fun (u : Unit) t => kx_B (dC, dI) classes A (WS_R_openAmount cI cL cZ h0 a_amounts a_stepAmounts a_groupAmounts a_outsidersCredits a_openPlaces v_made v_companies v_accounts v_open v_amounts v_openPlaces) t) A
set_option maxHeartbeats 4000000 in
set_option maxRecDepth 100000 in
theorem c_R_openAmount (l : Launch) (dC : Nat → ClassId) (dI : Nat → Nat → Nat) (cI cL cZ : ClassId)  (h0 a_amounts a_stepAmounts a_groupAmounts a_outsidersCredits a_openPlaces : Nat) (v_made : Int32) (v_companies : Int32) (v_accounts : Int32) (v_open : Int32) (v_amounts : (Nat → Int64)) (v_openPlaces : (Nat → Int32)) (sz : Nat) (p0 : Int32) {post : Int64 → Unit → Prop} (hw : wp_R_openAmount p0 v_amounts v_openPlaces post) : Met l y_R_openAmount ws_R_openAmount rm_R_openAmount (kx_Pc (dC, dI) classes (kx_T cI cL cZ) (WS_R_openAmount cI cL cZ h0 a_amounts a_stepAmounts a_groupAmounts a_outsidersCredits a_openPlaces v_made v_companies v_accounts v_open v_amounts v_openPlaces) sz [.ref h0, .int p0]) (QC_R_openAmount dC dI cI cL cZ (va_A (WS_R_openAmount cI cL cZ h0 a_amounts a_stepAmounts a_groupAmounts a_outsidersCredits a_openPlaces v_made v_companies v_accounts v_open v_amounts v_openPlaces) sz) h0 a_amounts a_stepAmounts a_groupAmounts a_outsidersCredits a_openPlaces v_made v_companies v_accounts v_open v_amounts v_openPlaces post) 0 0 (va_A (WS_R_openAmount cI cL cZ h0 a_amounts a_stepAmounts a_groupAmounts a_outsidersCredits a_openPlaces v_made v_companies v_accounts v_open v_amounts v_openPlaces) sz) := by
  refine Met.ofW (cc := prog_3_method_17_code) (maxL := 2) (ret := (some .long)) (by decide) rfl ?_
  intro p e s m args below meth c s₁ B hml hv
  obtain ⟨rfl, hsz, hP, hK, hD0, hN⟩ := hv
  have hx := B.exec
  have hb := B.bytes
  have hr := B.returns
  have hts := atoms_spec (ws := ws_R_openAmount) B.pre
  have hown : s.vm.findClass R_R = some m.cls := findClass_of_methodNamed B.named
  have hlocks := B.notSynchronized
  subst hsz
  have hD := hD0.self (sz := s.heap.size)
  generalize hAe : va_A (WS_R_openAmount cI cL cZ h0 a_amounts a_stepAmounts a_groupAmounts a_outsidersCredits a_openPlaces v_made v_companies v_accounts v_open v_amounts v_openPlaces) s.heap.size = A at hD ⊢
  have hA : ∀ q : Nat, s.heap.size ≤ q → A q := fun q h => by rw [← hAe]; exact Or.inr h
  have hS : va_S A s.heap s.heap [] := va_S.rf
  have hP : va_P (dC, dI) classes (WS_R_openAmount cI cL cZ h0 a_amounts a_stepAmounts a_groupAmounts a_outsidersCredits a_openPlaces v_made v_companies v_accounts v_open v_amounts v_openPlaces) s.heap := hP
  have hl := lv_entry ([.ref h0, .int p0]) (n := 2) (Nat.le_of_ble_eq_true rfl)
  rw [lg_entry_eq]
  generalize (lg_sl ([.ref h0, .int p0]) ++ List.replicate (2 - (lg_sl ([.ref h0, .int p0])).length) Slot.unset).toArray = ls at hl ⊢
  have hl : lv_has ls 2 [(0, .ref h0), (1, .int p0)] := hl
  unfold wp_R_openAmount at hw
  refine (show ∀ (H : Heap) (locs : List Loc), va_P (dC, dI) classes (WS_R_openAmount cI cL cZ h0 a_amounts a_stepAmounts a_groupAmounts a_outsidersCredits a_openPlaces v_made v_companies v_accounts v_open v_amounts v_openPlaces) H → va_S A s.heap H locs → W p l e (headSpec ws_R_openAmount rm_R_openAmount).room s m ([.ref h0, .int p0] : List Value).toArray below meth c H locs 0 0 (MQ below (QC_R_openAmount dC dI cI cL cZ A h0 a_amounts a_stepAmounts a_groupAmounts a_outsidersCredits a_openPlaces v_made v_companies v_accounts v_open v_amounts v_openPlaces post) ([.ref h0, .int p0] : List Value).toArray s 0 0 A) (F0 m 0 ls []) from ?_) _ _ hP hS
  intro H locs hP hS
  refine lv_aload_n hx hb d_R_openAmount_0 rfl (lv_at hl 0 rfl) ?_
  refine va_get (D := (dC, dI)) (ci := 1) (v := .ref a_amounts) (C := R_R) (T := F_R) (N := 9) hx hb hts (kx_in in_R) hown hK hP 0 rfl rfl 3 (by decide) (hts _ (kx_w iw_59)) (fun _ h9 => h9) rfl d_R_openAmount_1 ?_
  refine lv_aload_n hx hb d_R_openAmount_4 rfl (lv_at hl 0 rfl) ?_
  refine va_get (D := (dC, dI)) (ci := 1) (v := .ref a_openPlaces) (C := R_R) (T := F_R) (N := 9) hx hb hts (kx_in in_R) hown hK hP 0 rfl rfl 7 (by decide) (hts _ (kx_w iw_63)) (fun _ h9 => h9) rfl d_R_openAmount_5 ?_
  refine lv_iload_n hx hb d_R_openAmount_8 rfl (lv_at hl 1 rfl) ?_
  obtain ⟨hi, hw⟩ := hw
  refine va_iald hx hb hK hP 2 0 rfl rfl hi d_R_openAmount_9 ?_
  obtain ⟨hi, hw⟩ := hw
  refine va_lald hx hb hK hP 1 1 rfl rfl hi d_R_openAmount_10 ?_
  exact W.lret (v := (v_amounts (Int32.toNatClampNeg (v_openPlaces p0.toNatClampNeg)))) hx hb hr (fun t ht hW => ⟨⟨(v_amounts (Int32.toNatClampNeg (v_openPlaces p0.toNatClampNeg))), (), rfl, hw, ⟨by rw [ht]; exact hP, hD⟩⟩, hS.F ht⟩) hS.2.2 d_R_openAmount_11
/-! ConsolidationDesk$Report.begin(II)V -/
abbrev y_R_begin : MethodName := ⟨"ConsolidationDesk$Report", "begin", "(II)V"⟩
theorem d_R_begin_0 : decode prog_3_method_2_code 0 = .ok (.aload_n 0, 1) := by decide +kernel
theorem d_R_begin_1 : decode prog_3_method_2_code 1 = .ok (.iload_n 1, 1) := by decide +kernel
theorem d_R_begin_2 : decode prog_3_method_2_code 2 = .ok (.putfield 15, 3) := by decide +kernel
theorem d_R_begin_5 : decode prog_3_method_2_code 5 = .ok (.aload_n 0, 1) := by decide +kernel
theorem d_R_begin_6 : decode prog_3_method_2_code 6 = .ok (.iload_n 2, 1) := by decide +kernel
theorem d_R_begin_7 : decode prog_3_method_2_code 7 = .ok (.putfield 19, 3) := by decide +kernel
theorem d_R_begin_10 : decode prog_3_method_2_code 10 = .ok (.aload_n 0, 1) := by decide +kernel
theorem d_R_begin_11 : decode prog_3_method_2_code 11 = .ok (.getfield 22, 3) := by decide +kernel
theorem d_R_begin_14 : decode prog_3_method_2_code 14 = .ok (.lconst 0, 1) := by decide +kernel
theorem d_R_begin_15 : decode prog_3_method_2_code 15 = .ok (.invokestatic 42, 3) := by decide +kernel
theorem d_R_begin_18 : decode prog_3_method_2_code 18 = .ok (.aload_n 0, 1) := by decide +kernel
theorem d_R_begin_19 : decode prog_3_method_2_code 19 = .ok (.getfield 26, 3) := by decide +kernel
theorem d_R_begin_22 : decode prog_3_method_2_code 22 = .ok (.lconst 0, 1) := by decide +kernel
theorem d_R_begin_23 : decode prog_3_method_2_code 23 = .ok (.invokestatic 42, 3) := by decide +kernel
theorem d_R_begin_26 : decode prog_3_method_2_code 26 = .ok (.aload_n 0, 1) := by decide +kernel
theorem d_R_begin_27 : decode prog_3_method_2_code 27 = .ok (.getfield 29, 3) := by decide +kernel
theorem d_R_begin_30 : decode prog_3_method_2_code 30 = .ok (.lconst 0, 1) := by decide +kernel
theorem d_R_begin_31 : decode prog_3_method_2_code 31 = .ok (.invokestatic 42, 3) := by decide +kernel
theorem d_R_begin_34 : decode prog_3_method_2_code 34 = .ok (.aload_n 0, 1) := by decide +kernel
theorem d_R_begin_35 : decode prog_3_method_2_code 35 = .ok (.getfield 32, 3) := by decide +kernel
theorem d_R_begin_38 : decode prog_3_method_2_code 38 = .ok (.lconst 0, 1) := by decide +kernel
theorem d_R_begin_39 : decode prog_3_method_2_code 39 = .ok (.invokestatic 42, 3) := by decide +kernel
theorem d_R_begin_42 : decode prog_3_method_2_code 42 = .ok (.aload_n 0, 1) := by decide +kernel
theorem d_R_begin_43 : decode prog_3_method_2_code 43 = .ok (.iconst 0, 1) := by decide +kernel
theorem d_R_begin_44 : decode prog_3_method_2_code 44 = .ok (.putfield 39, 3) := by decide +kernel
theorem d_R_begin_47 : decode prog_3_method_2_code 47 = .ok (.return_, 1) := by decide +kernel
abbrev WS_R_begin (cI cL cZ : ClassId)  (h0 a_amounts a_stepAmounts a_groupAmounts a_outsidersCredits a_openPlaces : Nat) (v_made : Int32) (v_companies : Int32) (v_accounts : Int32) (v_open : Int32) (v_amounts : (Nat → Int64)) (v_stepAmounts : (Nat → Int64)) (v_groupAmounts : (Nat → Int64)) (v_outsidersCredits : (Nat → Int64)) : va_W := [(h0, .inr (1, [.int v_made, .int v_companies, .int v_accounts, .ref a_amounts, .ref a_stepAmounts, .ref a_groupAmounts, .ref a_outsidersCredits, .ref a_openPlaces, .int v_open])), (a_amounts, .inl (cL, 1872, .inr (.inl v_amounts))), (a_stepAmounts, .inl (cL, 432, .inr (.inl v_stepAmounts))), (a_groupAmounts, .inl (cL, 12, .inr (.inl v_groupAmounts))), (a_outsidersCredits, .inl (cL, 12, .inr (.inl v_outsidersCredits)))]
def wp_R_begin  (p0 : Int32) (p1 : Int32) (v_companies : Int32) (v_accounts : Int32) (v_open : Int32) (v_amounts : (Nat → Int64)) (v_stepAmounts : (Nat → Int64)) (v_groupAmounts : (Nat → Int64)) (v_outsidersCredits : (Nat → Int64)) (post : (Int32 × Int32 × Int32 × (Nat → Int64) × (Nat → Int64) × (Nat → Int64) × (Nat → Int64)) → Prop) : Prop := (wp_A_fillJ 1872 0 v_amounts (fun (u15 : (Nat → Int64)) => (wp_A_fillJ 432 0 v_stepAmounts (fun (u23 : (Nat → Int64)) => (wp_A_fillJ 12 0 v_groupAmounts (fun (u31 : (Nat → Int64)) => (wp_A_fillJ 12 0 v_outsidersCredits (fun (u39 : (Nat → Int64)) => post (p0, p1, 0, u15, u23, u31, u39)))))))))
abbrev ws_R_begin : List Cond := .code y_R_begin prog_3_method_2_code 3 none :: kxW
abbrev rm_R_begin : Room := { frames := 1, cells := 0, slots := 0, locals := 24 }
abbrev QC_R_begin (dC : Nat → ClassId) (dI : Nat → Nat → Nat) (cI cL cZ : ClassId) (A : Nat → Prop)  (h0 a_amounts a_stepAmounts a_groupAmounts a_outsidersCredits a_openPlaces : Nat) (v_made : Int32) (v_companies : Int32) (v_accounts : Int32) (v_open : Int32) (v_amounts : (Nat → Int64)) (v_stepAmounts : (Nat → Int64)) (v_groupAmounts : (Nat → Int64)) (v_outsidersCredits : (Nat → Int64)) (post : (Int32 × Int32 × Int32 × (Nat → Int64) × (Nat → Int64) × (Nat → Int64) × (Nat → Int64)) → Prop) : Array Value → State → Outcome → State → Prop := va_Qv post (fun (u : Int32 × Int32 × Int32 × (Nat → Int64) × (Nat → Int64) × (Nat → Int64) × (Nat → Int64)) t => kx_B (dC, dI) classes A (WS_R_begin cI cL cZ h0 a_amounts a_stepAmounts a_groupAmounts a_outsidersCredits a_openPlaces v_made u.1 u.2.1 u.2.2.1 u.2.2.2.1 u.2.2.2.2.1 u.2.2.2.2.2.1 u.2.2.2.2.2.2) t) A
set_option maxHeartbeats 4000000 in
set_option maxRecDepth 100000 in
theorem c_R_begin (l : Launch) (dC : Nat → ClassId) (dI : Nat → Nat → Nat) (cI cL cZ : ClassId)  (h0 a_amounts a_stepAmounts a_groupAmounts a_outsidersCredits a_openPlaces : Nat) (v_made : Int32) (v_companies : Int32) (v_accounts : Int32) (v_open : Int32) (v_amounts : (Nat → Int64)) (v_stepAmounts : (Nat → Int64)) (v_groupAmounts : (Nat → Int64)) (v_outsidersCredits : (Nat → Int64)) (sz : Nat) (p0 : Int32) (p1 : Int32) {post : (Int32 × Int32 × Int32 × (Nat → Int64) × (Nat → Int64) × (Nat → Int64) × (Nat → Int64)) → Prop} (hw : wp_R_begin p0 p1 v_companies v_accounts v_open v_amounts v_stepAmounts v_groupAmounts v_outsidersCredits post) : Met l y_R_begin ws_R_begin rm_R_begin (kx_Pc (dC, dI) classes (kx_T cI cL cZ) (WS_R_begin cI cL cZ h0 a_amounts a_stepAmounts a_groupAmounts a_outsidersCredits a_openPlaces v_made v_companies v_accounts v_open v_amounts v_stepAmounts v_groupAmounts v_outsidersCredits) sz [.ref h0, .int p0, .int p1]) (QC_R_begin dC dI cI cL cZ (va_A (WS_R_begin cI cL cZ h0 a_amounts a_stepAmounts a_groupAmounts a_outsidersCredits a_openPlaces v_made v_companies v_accounts v_open v_amounts v_stepAmounts v_groupAmounts v_outsidersCredits) sz) h0 a_amounts a_stepAmounts a_groupAmounts a_outsidersCredits a_openPlaces v_made v_companies v_accounts v_open v_amounts v_stepAmounts v_groupAmounts v_outsidersCredits post) 0 0 (va_A (WS_R_begin cI cL cZ h0 a_amounts a_stepAmounts a_groupAmounts a_outsidersCredits a_openPlaces v_made v_companies v_accounts v_open v_amounts v_stepAmounts v_groupAmounts v_outsidersCredits) sz) := by
  refine Met.ofW (cc := prog_3_method_2_code) (maxL := 3) (ret := none) (by decide) rfl ?_
  intro p e s m args below meth c s₁ B hml hv
  obtain ⟨rfl, hsz, hP, hK, hD0, hN⟩ := hv
  have hx := B.exec
  have hb := B.bytes
  have hr := B.returns
  have hts := atoms_spec (ws := ws_R_begin) B.pre
  have hown : s.vm.findClass R_R = some m.cls := findClass_of_methodNamed B.named
  have hlocks := B.notSynchronized
  subst hsz
  have hD := hD0.self (sz := s.heap.size)
  generalize hAe : va_A (WS_R_begin cI cL cZ h0 a_amounts a_stepAmounts a_groupAmounts a_outsidersCredits a_openPlaces v_made v_companies v_accounts v_open v_amounts v_stepAmounts v_groupAmounts v_outsidersCredits) s.heap.size = A at hD ⊢
  have hA : ∀ q : Nat, s.heap.size ≤ q → A q := fun q h => by rw [← hAe]; exact Or.inr h
  have hS : va_S A s.heap s.heap [] := va_S.rf
  have hP : va_P (dC, dI) classes (WS_R_begin cI cL cZ h0 a_amounts a_stepAmounts a_groupAmounts a_outsidersCredits a_openPlaces v_made v_companies v_accounts v_open v_amounts v_stepAmounts v_groupAmounts v_outsidersCredits) s.heap := hP
  have hl := lv_entry ([.ref h0, .int p0, .int p1]) (n := 3) (Nat.le_of_ble_eq_true rfl)
  rw [lg_entry_eq]
  generalize (lg_sl ([.ref h0, .int p0, .int p1]) ++ List.replicate (3 - (lg_sl ([.ref h0, .int p0, .int p1])).length) Slot.unset).toArray = ls at hl ⊢
  have hl : lv_has ls 3 [(0, .ref h0), (1, .int p0), (2, .int p1)] := hl
  unfold wp_R_begin at hw
  refine (show ∀ (H : Heap) (locs : List Loc), va_P (dC, dI) classes (WS_R_begin cI cL cZ h0 a_amounts a_stepAmounts a_groupAmounts a_outsidersCredits a_openPlaces v_made v_companies v_accounts v_open v_amounts v_stepAmounts v_groupAmounts v_outsidersCredits) H → va_S A s.heap H locs → W p l e (headSpec ws_R_begin rm_R_begin).room s m ([.ref h0, .int p0, .int p1] : List Value).toArray below meth c H locs 0 0 (MQ below (QC_R_begin dC dI cI cL cZ A h0 a_amounts a_stepAmounts a_groupAmounts a_outsidersCredits a_openPlaces v_made v_companies v_accounts v_open v_amounts v_stepAmounts v_groupAmounts v_outsidersCredits post) ([.ref h0, .int p0, .int p1] : List Value).toArray s 0 0 A) (F0 m 0 ls []) from ?_) _ _ hP hS
  intro H locs hP hS
  refine lv_aload_n hx hb d_R_begin_0 rfl (lv_at hl 0 rfl) ?_
  refine lv_iload_n hx hb d_R_begin_1 rfl (lv_at hl 1 rfl) ?_
  refine va_put (D := (dC, dI)) (ci := 1) (v := .int p0) (ty := .int) (C := R_R) (T := F_R) (N := 9) hx hb hts (kx_in in_R) t_R t_R_ok n_R hown hK hP hD hS 0 rfl rfl 1 (by decide) (hts _ (kx_w iw_57)) (fun _ h9 => h9) rfl (by decide +kernel) rfl rfl (Nat.le_of_ble_eq_true rfl) d_R_begin_2 (fun H locs hP hD hS => ?_)
  have hP : va_P (dC, dI) classes (WS_R_begin cI cL cZ h0 a_amounts a_stepAmounts a_groupAmounts a_outsidersCredits a_openPlaces v_made p0 v_accounts v_open v_amounts v_stepAmounts v_groupAmounts v_outsidersCredits) H := hP
  have hD : va_D A (WS_R_begin cI cL cZ h0 a_amounts a_stepAmounts a_groupAmounts a_outsidersCredits a_openPlaces v_made p0 v_accounts v_open v_amounts v_stepAmounts v_groupAmounts v_outsidersCredits) := hD
  refine lv_aload_n hx hb d_R_begin_5 rfl (lv_at hl 0 rfl) ?_
  refine lv_iload_n hx hb d_R_begin_6 rfl (lv_at hl 2 rfl) ?_
  refine va_put (D := (dC, dI)) (ci := 1) (v := .int p1) (ty := .int) (C := R_R) (T := F_R) (N := 9) hx hb hts (kx_in in_R) t_R t_R_ok n_R hown hK hP hD hS 0 rfl rfl 2 (by decide) (hts _ (kx_w iw_58)) (fun _ h9 => h9) rfl (by decide +kernel) rfl rfl (Nat.le_of_ble_eq_true rfl) d_R_begin_7 (fun H locs hP hD hS => ?_)
  have hP : va_P (dC, dI) classes (WS_R_begin cI cL cZ h0 a_amounts a_stepAmounts a_groupAmounts a_outsidersCredits a_openPlaces v_made p0 p1 v_open v_amounts v_stepAmounts v_groupAmounts v_outsidersCredits) H := hP
  have hD : va_D A (WS_R_begin cI cL cZ h0 a_amounts a_stepAmounts a_groupAmounts a_outsidersCredits a_openPlaces v_made p0 p1 v_open v_amounts v_stepAmounts v_groupAmounts v_outsidersCredits) := hD
  refine lv_aload_n hx hb d_R_begin_10 rfl (lv_at hl 0 rfl) ?_
  refine va_get (D := (dC, dI)) (ci := 1) (v := .ref a_amounts) (C := R_R) (T := F_R) (N := 9) hx hb hts (kx_in in_R) hown hK hP 0 rfl rfl 3 (by decide) (hts _ (kx_w iw_59)) (fun _ h9 => h9) rfl d_R_begin_11 ?_
  refine lv_lconst (v := 0) hx hb d_R_begin_14 (by decide) ?_
  refine kx_callv (ws' := fun u15 => (WS_R_begin cI cL cZ h0 a_amounts a_stepAmounts a_groupAmounts a_outsidersCredits a_openPlaces v_made p0 p1 v_open u15 v_stepAmounts v_groupAmounts v_outsidersCredits)) (va_runS (As := [.ref a_amounts, .long 0]) (rest := []) ⟨hx, hb, hml, hown, hts⟩ (c_A_fillJ l dC dI cI cL cZ 1872 a_amounts v_amounts H.size 0 hw) ⟨(callB_of 2 hts (kx_good iw_173) rfl rfl rfl (hts _ (kx_w iw_5)) (hts _ (kx_w iw_267)) (by decide +kernel) ⟨Nat.le_of_ble_eq_true rfl, Nat.le_of_ble_eq_true rfl⟩), (hts _ (kx_w iw_172))⟩ (kx_preS hN hK hP hD [1] (by decide) rfl) rfl rfl hl.1 rfl (lv_room (Nat.le_of_ble_eq_true rfl)) d_R_begin_15 ⟨Nat.le_of_ble_eq_true rfl, Nat.le_of_ble_eq_true rfl⟩) hP hD hS hA [1] [0, 2, 3, 4] rfl rfl (by decide) (by decide) [0, 4, 1, 2, 3] (by decide) (fun _ => rfl) (fun u15 H locs hw hP hD hS => ?_)
  have hP : va_P (dC, dI) classes (WS_R_begin cI cL cZ h0 a_amounts a_stepAmounts a_groupAmounts a_outsidersCredits a_openPlaces v_made p0 p1 v_open u15 v_stepAmounts v_groupAmounts v_outsidersCredits) H := hP
  have hD : va_D A (WS_R_begin cI cL cZ h0 a_amounts a_stepAmounts a_groupAmounts a_outsidersCredits a_openPlaces v_made p0 p1 v_open u15 v_stepAmounts v_groupAmounts v_outsidersCredits) := hD
  refine lv_aload_n hx hb d_R_begin_18 rfl (lv_at hl 0 rfl) ?_
  refine va_get (D := (dC, dI)) (ci := 1) (v := .ref a_stepAmounts) (C := R_R) (T := F_R) (N := 9) hx hb hts (kx_in in_R) hown hK hP 0 rfl rfl 4 (by decide) (hts _ (kx_w iw_60)) (fun _ h9 => h9) rfl d_R_begin_19 ?_
  refine lv_lconst (v := 0) hx hb d_R_begin_22 (by decide) ?_
  refine kx_callv (ws' := fun u23 => (WS_R_begin cI cL cZ h0 a_amounts a_stepAmounts a_groupAmounts a_outsidersCredits a_openPlaces v_made p0 p1 v_open u15 u23 v_groupAmounts v_outsidersCredits)) (va_runS (As := [.ref a_stepAmounts, .long 0]) (rest := []) ⟨hx, hb, hml, hown, hts⟩ (c_A_fillJ l dC dI cI cL cZ 432 a_stepAmounts v_stepAmounts H.size 0 hw) ⟨(callB_of 2 hts (kx_good iw_173) rfl rfl rfl (hts _ (kx_w iw_5)) (hts _ (kx_w iw_267)) (by decide +kernel) ⟨Nat.le_of_ble_eq_true rfl, Nat.le_of_ble_eq_true rfl⟩), (hts _ (kx_w iw_172))⟩ (kx_preS hN hK hP hD [2] (by decide) rfl) rfl rfl hl.1 rfl (lv_room (Nat.le_of_ble_eq_true rfl)) d_R_begin_23 ⟨Nat.le_of_ble_eq_true rfl, Nat.le_of_ble_eq_true rfl⟩) hP hD hS hA [2] [0, 1, 3, 4] rfl rfl (by decide) (by decide) [0, 1, 4, 2, 3] (by decide) (fun _ => rfl) (fun u23 H locs hw hP hD hS => ?_)
  have hP : va_P (dC, dI) classes (WS_R_begin cI cL cZ h0 a_amounts a_stepAmounts a_groupAmounts a_outsidersCredits a_openPlaces v_made p0 p1 v_open u15 u23 v_groupAmounts v_outsidersCredits) H := hP
  have hD : va_D A (WS_R_begin cI cL cZ h0 a_amounts a_stepAmounts a_groupAmounts a_outsidersCredits a_openPlaces v_made p0 p1 v_open u15 u23 v_groupAmounts v_outsidersCredits) := hD
  refine lv_aload_n hx hb d_R_begin_26 rfl (lv_at hl 0 rfl) ?_
  refine va_get (D := (dC, dI)) (ci := 1) (v := .ref a_groupAmounts) (C := R_R) (T := F_R) (N := 9) hx hb hts (kx_in in_R) hown hK hP 0 rfl rfl 5 (by decide) (hts _ (kx_w iw_61)) (fun _ h9 => h9) rfl d_R_begin_27 ?_
  refine lv_lconst (v := 0) hx hb d_R_begin_30 (by decide) ?_
  refine kx_callv (ws' := fun u31 => (WS_R_begin cI cL cZ h0 a_amounts a_stepAmounts a_groupAmounts a_outsidersCredits a_openPlaces v_made p0 p1 v_open u15 u23 u31 v_outsidersCredits)) (va_runS (As := [.ref a_groupAmounts, .long 0]) (rest := []) ⟨hx, hb, hml, hown, hts⟩ (c_A_fillJ l dC dI cI cL cZ 12 a_groupAmounts v_groupAmounts H.size 0 hw) ⟨(callB_of 2 hts (kx_good iw_173) rfl rfl rfl (hts _ (kx_w iw_5)) (hts _ (kx_w iw_267)) (by decide +kernel) ⟨Nat.le_of_ble_eq_true rfl, Nat.le_of_ble_eq_true rfl⟩), (hts _ (kx_w iw_172))⟩ (kx_preS hN hK hP hD [3] (by decide) rfl) rfl rfl hl.1 rfl (lv_room (Nat.le_of_ble_eq_true rfl)) d_R_begin_31 ⟨Nat.le_of_ble_eq_true rfl, Nat.le_of_ble_eq_true rfl⟩) hP hD hS hA [3] [0, 1, 2, 4] rfl rfl (by decide) (by decide) [0, 1, 2, 4, 3] (by decide) (fun _ => rfl) (fun u31 H locs hw hP hD hS => ?_)
  have hP : va_P (dC, dI) classes (WS_R_begin cI cL cZ h0 a_amounts a_stepAmounts a_groupAmounts a_outsidersCredits a_openPlaces v_made p0 p1 v_open u15 u23 u31 v_outsidersCredits) H := hP
  have hD : va_D A (WS_R_begin cI cL cZ h0 a_amounts a_stepAmounts a_groupAmounts a_outsidersCredits a_openPlaces v_made p0 p1 v_open u15 u23 u31 v_outsidersCredits) := hD
  refine lv_aload_n hx hb d_R_begin_34 rfl (lv_at hl 0 rfl) ?_
  refine va_get (D := (dC, dI)) (ci := 1) (v := .ref a_outsidersCredits) (C := R_R) (T := F_R) (N := 9) hx hb hts (kx_in in_R) hown hK hP 0 rfl rfl 6 (by decide) (hts _ (kx_w iw_62)) (fun _ h9 => h9) rfl d_R_begin_35 ?_
  refine lv_lconst (v := 0) hx hb d_R_begin_38 (by decide) ?_
  refine kx_callv (ws' := fun u39 => (WS_R_begin cI cL cZ h0 a_amounts a_stepAmounts a_groupAmounts a_outsidersCredits a_openPlaces v_made p0 p1 v_open u15 u23 u31 u39)) (va_runS (As := [.ref a_outsidersCredits, .long 0]) (rest := []) ⟨hx, hb, hml, hown, hts⟩ (c_A_fillJ l dC dI cI cL cZ 12 a_outsidersCredits v_outsidersCredits H.size 0 hw) ⟨(callB_of 2 hts (kx_good iw_173) rfl rfl rfl (hts _ (kx_w iw_5)) (hts _ (kx_w iw_267)) (by decide +kernel) ⟨Nat.le_of_ble_eq_true rfl, Nat.le_of_ble_eq_true rfl⟩), (hts _ (kx_w iw_172))⟩ (kx_preS hN hK hP hD [4] (by decide) rfl) rfl rfl hl.1 rfl (lv_room (Nat.le_of_ble_eq_true rfl)) d_R_begin_39 ⟨Nat.le_of_ble_eq_true rfl, Nat.le_of_ble_eq_true rfl⟩) hP hD hS hA [4] [0, 1, 2, 3] rfl rfl (by decide) (by decide) [0, 1, 2, 3, 4] (by decide) (fun _ => rfl) (fun u39 H locs hw hP hD hS => ?_)
  have hP : va_P (dC, dI) classes (WS_R_begin cI cL cZ h0 a_amounts a_stepAmounts a_groupAmounts a_outsidersCredits a_openPlaces v_made p0 p1 v_open u15 u23 u31 u39) H := hP
  have hD : va_D A (WS_R_begin cI cL cZ h0 a_amounts a_stepAmounts a_groupAmounts a_outsidersCredits a_openPlaces v_made p0 p1 v_open u15 u23 u31 u39) := hD
  refine lv_aload_n hx hb d_R_begin_42 rfl (lv_at hl 0 rfl) ?_
  refine lv_iconst (v := 0) hx hb d_R_begin_43 (by decide) ?_
  refine va_put (D := (dC, dI)) (ci := 1) (v := .int 0) (ty := .int) (C := R_R) (T := F_R) (N := 9) hx hb hts (kx_in in_R) t_R t_R_ok n_R hown hK hP hD hS 0 rfl rfl 8 (by decide) (hts _ (kx_w iw_64)) (fun _ h9 => h9) rfl (by decide +kernel) rfl rfl (Nat.le_of_ble_eq_true rfl) d_R_begin_44 (fun H locs hP hD hS => ?_)
  have hP : va_P (dC, dI) classes (WS_R_begin cI cL cZ h0 a_amounts a_stepAmounts a_groupAmounts a_outsidersCredits a_openPlaces v_made p0 p1 0 u15 u23 u31 u39) H := hP
  have hD : va_D A (WS_R_begin cI cL cZ h0 a_amounts a_stepAmounts a_groupAmounts a_outsidersCredits a_openPlaces v_made p0 p1 0 u15 u23 u31 u39) := hD
  exact W.vret hx hb hr (fun t ht hW => ⟨⟨(p0, p1, 0, u15, u23, u31, u39), rfl, hw, ⟨by rw [ht]; exact hP, hD⟩⟩, hS.F ht⟩) hS.2.2 d_R_begin_47
/-! ConsolidationDesk$Report.add(IIIJ)V -/
abbrev y_R_add : MethodName := ⟨"ConsolidationDesk$Report", "add", "(IIIJ)V"⟩
theorem d_R_add_0 : decode prog_3_method_3_code 0 = .ok (.aload_n 0, 1) := by decide +kernel
theorem d_R_add_1 : decode prog_3_method_3_code 1 = .ok (.getfield 22, 3) := by decide +kernel
theorem d_R_add_4 : decode prog_3_method_3_code 4 = .ok (.iload_n 1, 1) := by decide +kernel
theorem d_R_add_5 : decode prog_3_method_3_code 5 = .ok (.iload_n 2, 1) := by decide +kernel
theorem d_R_add_6 : decode prog_3_method_3_code 6 = .ok (.iload_n 3, 1) := by decide +kernel
theorem d_R_add_7 : decode prog_3_method_3_code 7 = .ok (.invokestatic 48, 3) := by decide +kernel
theorem d_R_add_10 : decode prog_3_method_3_code 10 = .ok (.dup2, 1) := by decide +kernel
theorem d_R_add_11 : decode prog_3_method_3_code 11 = .ok (.laload, 1) := by decide +kernel
theorem d_R_add_12 : decode prog_3_method_3_code 12 = .ok (.lload 4, 2) := by decide +kernel
theorem d_R_add_14 : decode prog_3_method_3_code 14 = .ok (.ladd, 1) := by decide +kernel
theorem d_R_add_15 : decode prog_3_method_3_code 15 = .ok (.lastore, 1) := by decide +kernel
theorem d_R_add_16 : decode prog_3_method_3_code 16 = .ok (.return_, 1) := by decide +kernel
abbrev WS_R_add (cI cL cZ : ClassId)  (h0 a_amounts a_stepAmounts a_groupAmounts a_outsidersCredits a_openPlaces : Nat) (v_made : Int32) (v_companies : Int32) (v_accounts : Int32) (v_open : Int32) (v_amounts : (Nat → Int64)) : va_W := [(h0, .inr (1, [.int v_made, .int v_companies, .int v_accounts, .ref a_amounts, .ref a_stepAmounts, .ref a_groupAmounts, .ref a_outsidersCredits, .ref a_openPlaces, .int v_open])), (a_amounts, .inl (cL, 1872, .inr (.inl v_amounts)))]
def wp_R_add  (p0 : Int32) (p1 : Int32) (p2 : Int32) (p3 : Int64) (v_amounts : (Nat → Int64)) (post : (Nat → Int64) → Prop) : Prop := (wp_D_place p0 p1 p2 (fun (r7 : Int32) (u7 : Unit) => (vp_in r7 1872 ∧ (vp_in r7 1872 ∧ post (vp_updL v_amounts r7.toNatClampNeg ((v_amounts r7.toNatClampNeg) + p3))))))
abbrev ws_R_add : List Cond := .code y_R_add prog_3_method_3_code 6 none :: kxW
abbrev rm_R_add : Room := { frames := 1, cells := 0, slots := 0, locals := 22 }
abbrev QC_R_add (dC : Nat → ClassId) (dI : Nat → Nat → Nat) (cI cL cZ : ClassId) (A : Nat → Prop)  (h0 a_amounts a_stepAmounts a_groupAmounts a_outsidersCredits a_openPlaces : Nat) (v_made : Int32) (v_companies : Int32) (v_accounts : Int32) (v_open : Int32) (v_amounts : (Nat → Int64)) (post : (Nat → Int64) → Prop) : Array Value → State → Outcome → State → Prop := va_Qv post (fun (u : (Nat → Int64)) t => kx_B (dC, dI) classes A (WS_R_add cI cL cZ h0 a_amounts a_stepAmounts a_groupAmounts a_outsidersCredits a_openPlaces v_made v_companies v_accounts v_open u) t) A
set_option maxHeartbeats 4000000 in
set_option maxRecDepth 100000 in
theorem c_R_add (l : Launch) (dC : Nat → ClassId) (dI : Nat → Nat → Nat) (cI cL cZ : ClassId)  (h0 a_amounts a_stepAmounts a_groupAmounts a_outsidersCredits a_openPlaces : Nat) (v_made : Int32) (v_companies : Int32) (v_accounts : Int32) (v_open : Int32) (v_amounts : (Nat → Int64)) (sz : Nat) (p0 : Int32) (p1 : Int32) (p2 : Int32) (p3 : Int64) {post : (Nat → Int64) → Prop} (hw : wp_R_add p0 p1 p2 p3 v_amounts post) : Met l y_R_add ws_R_add rm_R_add (kx_Pc (dC, dI) classes (kx_T cI cL cZ) (WS_R_add cI cL cZ h0 a_amounts a_stepAmounts a_groupAmounts a_outsidersCredits a_openPlaces v_made v_companies v_accounts v_open v_amounts) sz [.ref h0, .int p0, .int p1, .int p2, .long p3]) (QC_R_add dC dI cI cL cZ (va_A (WS_R_add cI cL cZ h0 a_amounts a_stepAmounts a_groupAmounts a_outsidersCredits a_openPlaces v_made v_companies v_accounts v_open v_amounts) sz) h0 a_amounts a_stepAmounts a_groupAmounts a_outsidersCredits a_openPlaces v_made v_companies v_accounts v_open v_amounts post) 0 0 (va_A (WS_R_add cI cL cZ h0 a_amounts a_stepAmounts a_groupAmounts a_outsidersCredits a_openPlaces v_made v_companies v_accounts v_open v_amounts) sz) := by
  refine Met.ofW (cc := prog_3_method_3_code) (maxL := 6) (ret := none) (by decide) rfl ?_
  intro p e s m args below meth c s₁ B hml hv
  obtain ⟨rfl, hsz, hP, hK, hD0, hN⟩ := hv
  have hx := B.exec
  have hb := B.bytes
  have hr := B.returns
  have hts := atoms_spec (ws := ws_R_add) B.pre
  have hown : s.vm.findClass R_R = some m.cls := findClass_of_methodNamed B.named
  have hlocks := B.notSynchronized
  subst hsz
  have hD := hD0.self (sz := s.heap.size)
  generalize hAe : va_A (WS_R_add cI cL cZ h0 a_amounts a_stepAmounts a_groupAmounts a_outsidersCredits a_openPlaces v_made v_companies v_accounts v_open v_amounts) s.heap.size = A at hD ⊢
  have hA : ∀ q : Nat, s.heap.size ≤ q → A q := fun q h => by rw [← hAe]; exact Or.inr h
  have hS : va_S A s.heap s.heap [] := va_S.rf
  have hP : va_P (dC, dI) classes (WS_R_add cI cL cZ h0 a_amounts a_stepAmounts a_groupAmounts a_outsidersCredits a_openPlaces v_made v_companies v_accounts v_open v_amounts) s.heap := hP
  have hl := lv_entry ([.ref h0, .int p0, .int p1, .int p2, .long p3]) (n := 6) (Nat.le_of_ble_eq_true rfl)
  rw [lg_entry_eq]
  generalize (lg_sl ([.ref h0, .int p0, .int p1, .int p2, .long p3]) ++ List.replicate (6 - (lg_sl ([.ref h0, .int p0, .int p1, .int p2, .long p3])).length) Slot.unset).toArray = ls at hl ⊢
  have hl : lv_has ls 6 [(0, .ref h0), (1, .int p0), (2, .int p1), (3, .int p2), (4, .long p3)] := hl
  unfold wp_R_add at hw
  refine (show ∀ (H : Heap) (locs : List Loc), va_P (dC, dI) classes (WS_R_add cI cL cZ h0 a_amounts a_stepAmounts a_groupAmounts a_outsidersCredits a_openPlaces v_made v_companies v_accounts v_open v_amounts) H → va_S A s.heap H locs → W p l e (headSpec ws_R_add rm_R_add).room s m ([.ref h0, .int p0, .int p1, .int p2, .long p3] : List Value).toArray below meth c H locs 0 0 (MQ below (QC_R_add dC dI cI cL cZ A h0 a_amounts a_stepAmounts a_groupAmounts a_outsidersCredits a_openPlaces v_made v_companies v_accounts v_open v_amounts post) ([.ref h0, .int p0, .int p1, .int p2, .long p3] : List Value).toArray s 0 0 A) (F0 m 0 ls []) from ?_) _ _ hP hS
  intro H locs hP hS
  refine lv_aload_n hx hb d_R_add_0 rfl (lv_at hl 0 rfl) ?_
  refine va_get (D := (dC, dI)) (ci := 1) (v := .ref a_amounts) (C := R_R) (T := F_R) (N := 9) hx hb hts (kx_in in_R) hown hK hP 0 rfl rfl 3 (by decide) (hts _ (kx_w iw_59)) (fun _ h9 => h9) rfl d_R_add_1 ?_
  refine lv_iload_n hx hb d_R_add_4 rfl (lv_at hl 1 rfl) ?_
  refine lv_iload_n hx hb d_R_add_5 rfl (lv_at hl 2 rfl) ?_
  refine lv_iload_n hx hb d_R_add_6 rfl (lv_at hl 3 rfl) ?_
  refine kx_calli (ws' := fun u7 => (WS_R_add cI cL cZ h0 a_amounts a_stepAmounts a_groupAmounts a_outsidersCredits a_openPlaces v_made v_companies v_accounts v_open v_amounts)) (va_runSN (As := [.int p0, .int p1, .int p2]) (rest := [.ref a_amounts]) ⟨hx, hb, hml, hown, hts⟩ (c_D_place l dC dI cI cL cZ  H.size p0 p1 p2 hw) ⟨(va_cnB 3 hts (kx_good iw_212) rfl rfl rfl hN (hts _ (kx_w iw_1)) (by decide +kernel) ⟨Nat.le_of_ble_eq_true rfl, Nat.le_of_ble_eq_true rfl⟩), (hts _ (kx_w iw_211)), trivial⟩ (kx_preS hN hK hP hD [] (by decide) rfl) rfl rfl hl.1 rfl (lv_room (Nat.le_of_ble_eq_true rfl)) d_R_add_7 ⟨Nat.le_of_ble_eq_true rfl, Nat.le_of_ble_eq_true rfl⟩) hP hD hS hA [] [0, 1] rfl rfl (by decide) (by decide) [0, 1] (by decide) (fun _ => rfl) (fun r7 u7 H locs hw hP hD hS => ?_)
  have hP : va_P (dC, dI) classes (WS_R_add cI cL cZ h0 a_amounts a_stepAmounts a_groupAmounts a_outsidersCredits a_openPlaces v_made v_companies v_accounts v_open v_amounts) H := hP
  have hD : va_D A (WS_R_add cI cL cZ h0 a_amounts a_stepAmounts a_groupAmounts a_outsidersCredits a_openPlaces v_made v_companies v_accounts v_open v_amounts) := hD
  refine lv_dup2_11 hx hb d_R_add_10 rfl rfl ?_
  obtain ⟨hi, hw⟩ := hw
  refine va_lald hx hb hK hP 1 1 rfl rfl hi d_R_add_11 ?_
  refine lv_lload hx hb d_R_add_12 (lv_at hl 4 rfl) ?_
  refine lv_ladd hx hb d_R_add_14 ?_
  obtain ⟨hi, hw⟩ := hw
  refine va_last hx hb hK hP hD hS 1 1 rfl rfl hi d_R_add_15 (fun H locs hP hD hS => ?_)
  have hP : va_P (dC, dI) classes (WS_R_add cI cL cZ h0 a_amounts a_stepAmounts a_groupAmounts a_outsidersCredits a_openPlaces v_made v_companies v_accounts v_open (vp_updL v_amounts r7.toNatClampNeg ((v_amounts r7.toNatClampNeg) + p3))) H := hP
  have hD : va_D A (WS_R_add cI cL cZ h0 a_amounts a_stepAmounts a_groupAmounts a_outsidersCredits a_openPlaces v_made v_companies v_accounts v_open (vp_updL v_amounts r7.toNatClampNeg ((v_amounts r7.toNatClampNeg) + p3))) := hD
  exact W.vret hx hb hr (fun t ht hW => ⟨⟨(vp_updL v_amounts r7.toNatClampNeg ((v_amounts r7.toNatClampNeg) + p3)), rfl, hw, ⟨by rw [ht]; exact hP, hD⟩⟩, hS.F ht⟩) hS.2.2 d_R_add_16
/-! ConsolidationDesk$Report.setOutsidersCredit(IJ)V -/
abbrev y_R_setOutsidersCredit : MethodName := ⟨"ConsolidationDesk$Report", "setOutsidersCredit", "(IJ)V"⟩
theorem d_R_setOutsidersCredit_0 : decode prog_3_method_4_code 0 = .ok (.aload_n 0, 1) := by decide +kernel
theorem d_R_setOutsidersCredit_1 : decode prog_3_method_4_code 1 = .ok (.getfield 32, 3) := by decide +kernel
theorem d_R_setOutsidersCredit_4 : decode prog_3_method_4_code 4 = .ok (.iload_n 1, 1) := by decide +kernel
theorem d_R_setOutsidersCredit_5 : decode prog_3_method_4_code 5 = .ok (.lload_n 2, 1) := by decide +kernel
theorem d_R_setOutsidersCredit_6 : decode prog_3_method_4_code 6 = .ok (.lastore, 1) := by decide +kernel
theorem d_R_setOutsidersCredit_7 : decode prog_3_method_4_code 7 = .ok (.return_, 1) := by decide +kernel
abbrev WS_R_setOutsidersCredit (cI cL cZ : ClassId)  (h0 a_amounts a_stepAmounts a_groupAmounts a_outsidersCredits a_openPlaces : Nat) (v_made : Int32) (v_companies : Int32) (v_accounts : Int32) (v_open : Int32) (v_outsidersCredits : (Nat → Int64)) : va_W := [(h0, .inr (1, [.int v_made, .int v_companies, .int v_accounts, .ref a_amounts, .ref a_stepAmounts, .ref a_groupAmounts, .ref a_outsidersCredits, .ref a_openPlaces, .int v_open])), (a_outsidersCredits, .inl (cL, 12, .inr (.inl v_outsidersCredits)))]
def wp_R_setOutsidersCredit  (p0 : Int32) (p1 : Int64) (v_outsidersCredits : (Nat → Int64)) (post : (Nat → Int64) → Prop) : Prop := (vp_in p0 12 ∧ post (vp_updL v_outsidersCredits p0.toNatClampNeg p1))
abbrev ws_R_setOutsidersCredit : List Cond := .code y_R_setOutsidersCredit prog_3_method_4_code 4 none :: kxW
abbrev rm_R_setOutsidersCredit : Room := { frames := 0, cells := 0, slots := 0, locals := 0 }
abbrev QC_R_setOutsidersCredit (dC : Nat → ClassId) (dI : Nat → Nat → Nat) (cI cL cZ : ClassId) (A : Nat → Prop)  (h0 a_amounts a_stepAmounts a_groupAmounts a_outsidersCredits a_openPlaces : Nat) (v_made : Int32) (v_companies : Int32) (v_accounts : Int32) (v_open : Int32) (v_outsidersCredits : (Nat → Int64)) (post : (Nat → Int64) → Prop) : Array Value → State → Outcome → State → Prop := va_Qv post (fun (u : (Nat → Int64)) t => kx_B (dC, dI) classes A (WS_R_setOutsidersCredit cI cL cZ h0 a_amounts a_stepAmounts a_groupAmounts a_outsidersCredits a_openPlaces v_made v_companies v_accounts v_open u) t) A
set_option maxHeartbeats 4000000 in
set_option maxRecDepth 100000 in
theorem c_R_setOutsidersCredit (l : Launch) (dC : Nat → ClassId) (dI : Nat → Nat → Nat) (cI cL cZ : ClassId)  (h0 a_amounts a_stepAmounts a_groupAmounts a_outsidersCredits a_openPlaces : Nat) (v_made : Int32) (v_companies : Int32) (v_accounts : Int32) (v_open : Int32) (v_outsidersCredits : (Nat → Int64)) (sz : Nat) (p0 : Int32) (p1 : Int64) {post : (Nat → Int64) → Prop} (hw : wp_R_setOutsidersCredit p0 p1 v_outsidersCredits post) : Met l y_R_setOutsidersCredit ws_R_setOutsidersCredit rm_R_setOutsidersCredit (kx_Pc (dC, dI) classes (kx_T cI cL cZ) (WS_R_setOutsidersCredit cI cL cZ h0 a_amounts a_stepAmounts a_groupAmounts a_outsidersCredits a_openPlaces v_made v_companies v_accounts v_open v_outsidersCredits) sz [.ref h0, .int p0, .long p1]) (QC_R_setOutsidersCredit dC dI cI cL cZ (va_A (WS_R_setOutsidersCredit cI cL cZ h0 a_amounts a_stepAmounts a_groupAmounts a_outsidersCredits a_openPlaces v_made v_companies v_accounts v_open v_outsidersCredits) sz) h0 a_amounts a_stepAmounts a_groupAmounts a_outsidersCredits a_openPlaces v_made v_companies v_accounts v_open v_outsidersCredits post) 0 0 (va_A (WS_R_setOutsidersCredit cI cL cZ h0 a_amounts a_stepAmounts a_groupAmounts a_outsidersCredits a_openPlaces v_made v_companies v_accounts v_open v_outsidersCredits) sz) := by
  refine Met.ofW (cc := prog_3_method_4_code) (maxL := 4) (ret := none) (by decide) rfl ?_
  intro p e s m args below meth c s₁ B hml hv
  obtain ⟨rfl, hsz, hP, hK, hD0, hN⟩ := hv
  have hx := B.exec
  have hb := B.bytes
  have hr := B.returns
  have hts := atoms_spec (ws := ws_R_setOutsidersCredit) B.pre
  have hown : s.vm.findClass R_R = some m.cls := findClass_of_methodNamed B.named
  have hlocks := B.notSynchronized
  subst hsz
  have hD := hD0.self (sz := s.heap.size)
  generalize hAe : va_A (WS_R_setOutsidersCredit cI cL cZ h0 a_amounts a_stepAmounts a_groupAmounts a_outsidersCredits a_openPlaces v_made v_companies v_accounts v_open v_outsidersCredits) s.heap.size = A at hD ⊢
  have hA : ∀ q : Nat, s.heap.size ≤ q → A q := fun q h => by rw [← hAe]; exact Or.inr h
  have hS : va_S A s.heap s.heap [] := va_S.rf
  have hP : va_P (dC, dI) classes (WS_R_setOutsidersCredit cI cL cZ h0 a_amounts a_stepAmounts a_groupAmounts a_outsidersCredits a_openPlaces v_made v_companies v_accounts v_open v_outsidersCredits) s.heap := hP
  have hl := lv_entry ([.ref h0, .int p0, .long p1]) (n := 4) (Nat.le_of_ble_eq_true rfl)
  rw [lg_entry_eq]
  generalize (lg_sl ([.ref h0, .int p0, .long p1]) ++ List.replicate (4 - (lg_sl ([.ref h0, .int p0, .long p1])).length) Slot.unset).toArray = ls at hl ⊢
  have hl : lv_has ls 4 [(0, .ref h0), (1, .int p0), (2, .long p1)] := hl
  unfold wp_R_setOutsidersCredit at hw
  refine (show ∀ (H : Heap) (locs : List Loc), va_P (dC, dI) classes (WS_R_setOutsidersCredit cI cL cZ h0 a_amounts a_stepAmounts a_groupAmounts a_outsidersCredits a_openPlaces v_made v_companies v_accounts v_open v_outsidersCredits) H → va_S A s.heap H locs → W p l e (headSpec ws_R_setOutsidersCredit rm_R_setOutsidersCredit).room s m ([.ref h0, .int p0, .long p1] : List Value).toArray below meth c H locs 0 0 (MQ below (QC_R_setOutsidersCredit dC dI cI cL cZ A h0 a_amounts a_stepAmounts a_groupAmounts a_outsidersCredits a_openPlaces v_made v_companies v_accounts v_open v_outsidersCredits post) ([.ref h0, .int p0, .long p1] : List Value).toArray s 0 0 A) (F0 m 0 ls []) from ?_) _ _ hP hS
  intro H locs hP hS
  refine lv_aload_n hx hb d_R_setOutsidersCredit_0 rfl (lv_at hl 0 rfl) ?_
  refine va_get (D := (dC, dI)) (ci := 1) (v := .ref a_outsidersCredits) (C := R_R) (T := F_R) (N := 9) hx hb hts (kx_in in_R) hown hK hP 0 rfl rfl 6 (by decide) (hts _ (kx_w iw_62)) (fun _ h9 => h9) rfl d_R_setOutsidersCredit_1 ?_
  refine lv_iload_n hx hb d_R_setOutsidersCredit_4 rfl (lv_at hl 1 rfl) ?_
  refine lv_lload_n hx hb d_R_setOutsidersCredit_5 rfl (lv_at hl 2 rfl) ?_
  obtain ⟨hi, hw⟩ := hw
  refine va_last hx hb hK hP hD hS 1 1 rfl rfl hi d_R_setOutsidersCredit_6 (fun H locs hP hD hS => ?_)
  have hP : va_P (dC, dI) classes (WS_R_setOutsidersCredit cI cL cZ h0 a_amounts a_stepAmounts a_groupAmounts a_outsidersCredits a_openPlaces v_made v_companies v_accounts v_open (vp_updL v_outsidersCredits p0.toNatClampNeg p1)) H := hP
  have hD : va_D A (WS_R_setOutsidersCredit cI cL cZ h0 a_amounts a_stepAmounts a_groupAmounts a_outsidersCredits a_openPlaces v_made v_companies v_accounts v_open (vp_updL v_outsidersCredits p0.toNatClampNeg p1)) := hD
  exact W.vret hx hb hr (fun t ht hW => ⟨⟨(vp_updL v_outsidersCredits p0.toNatClampNeg p1), rfl, hw, ⟨by rw [ht]; exact hP, hD⟩⟩, hS.F ht⟩) hS.2.2 d_R_setOutsidersCredit_7
/-! ConsolidationDesk$Report.keepStep(I)V -/
abbrev y_R_keepStep : MethodName := ⟨"ConsolidationDesk$Report", "keepStep", "(I)V"⟩
theorem d_R_keepStep_0 : decode prog_3_method_5_code 0 = .ok (.iconst 0, 1) := by decide +kernel
theorem d_R_keepStep_1 : decode prog_3_method_5_code 1 = .ok (.istore_n 2, 1) := by decide +kernel
theorem d_R_keepStep_2 : decode prog_3_method_5_code 2 = .ok (.iload_n 2, 1) := by decide +kernel
theorem d_R_keepStep_3 : decode prog_3_method_5_code 3 = .ok (.aload_n 0, 1) := by decide +kernel
theorem d_R_keepStep_4 : decode prog_3_method_5_code 4 = .ok (.getfield 15, 3) := by decide +kernel
theorem d_R_keepStep_7 : decode prog_3_method_5_code 7 = .ok (.if_icmp .ge 70, 3) := by decide +kernel
theorem d_R_keepStep_10 : decode prog_3_method_5_code 10 = .ok (.iconst (-1), 1) := by decide +kernel
theorem d_R_keepStep_11 : decode prog_3_method_5_code 11 = .ok (.istore_n 3, 1) := by decide +kernel
theorem d_R_keepStep_12 : decode prog_3_method_5_code 12 = .ok (.iload_n 3, 1) := by decide +kernel
theorem d_R_keepStep_13 : decode prog_3_method_5_code 13 = .ok (.aload_n 0, 1) := by decide +kernel
theorem d_R_keepStep_14 : decode prog_3_method_5_code 14 = .ok (.getfield 15, 3) := by decide +kernel
theorem d_R_keepStep_17 : decode prog_3_method_5_code 17 = .ok (.if_icmp .ge 54, 3) := by decide +kernel
theorem d_R_keepStep_20 : decode prog_3_method_5_code 20 = .ok (.iconst 0, 1) := by decide +kernel
theorem d_R_keepStep_21 : decode prog_3_method_5_code 21 = .ok (.istore 4, 2) := by decide +kernel
theorem d_R_keepStep_23 : decode prog_3_method_5_code 23 = .ok (.iload 4, 2) := by decide +kernel
theorem d_R_keepStep_25 : decode prog_3_method_5_code 25 = .ok (.aload_n 0, 1) := by decide +kernel
theorem d_R_keepStep_26 : decode prog_3_method_5_code 26 = .ok (.getfield 19, 3) := by decide +kernel
theorem d_R_keepStep_29 : decode prog_3_method_5_code 29 = .ok (.if_icmp .ge 36, 3) := by decide +kernel
theorem d_R_keepStep_32 : decode prog_3_method_5_code 32 = .ok (.aload_n 0, 1) := by decide +kernel
theorem d_R_keepStep_33 : decode prog_3_method_5_code 33 = .ok (.getfield 26, 3) := by decide +kernel
theorem d_R_keepStep_36 : decode prog_3_method_5_code 36 = .ok (.iload_n 1, 1) := by decide +kernel
theorem d_R_keepStep_37 : decode prog_3_method_5_code 37 = .ok (.iload_n 2, 1) := by decide +kernel
theorem d_R_keepStep_38 : decode prog_3_method_5_code 38 = .ok (.iload 4, 2) := by decide +kernel
theorem d_R_keepStep_40 : decode prog_3_method_5_code 40 = .ok (.invokestatic 52, 3) := by decide +kernel
theorem d_R_keepStep_43 : decode prog_3_method_5_code 43 = .ok (.dup2, 1) := by decide +kernel
theorem d_R_keepStep_44 : decode prog_3_method_5_code 44 = .ok (.laload, 1) := by decide +kernel
theorem d_R_keepStep_45 : decode prog_3_method_5_code 45 = .ok (.aload_n 0, 1) := by decide +kernel
theorem d_R_keepStep_46 : decode prog_3_method_5_code 46 = .ok (.getfield 22, 3) := by decide +kernel
theorem d_R_keepStep_49 : decode prog_3_method_5_code 49 = .ok (.iload_n 2, 1) := by decide +kernel
theorem d_R_keepStep_50 : decode prog_3_method_5_code 50 = .ok (.iload_n 3, 1) := by decide +kernel
theorem d_R_keepStep_51 : decode prog_3_method_5_code 51 = .ok (.iload 4, 2) := by decide +kernel
theorem d_R_keepStep_53 : decode prog_3_method_5_code 53 = .ok (.invokestatic 48, 3) := by decide +kernel
theorem d_R_keepStep_56 : decode prog_3_method_5_code 56 = .ok (.laload, 1) := by decide +kernel
theorem d_R_keepStep_57 : decode prog_3_method_5_code 57 = .ok (.ladd, 1) := by decide +kernel
theorem d_R_keepStep_58 : decode prog_3_method_5_code 58 = .ok (.lastore, 1) := by decide +kernel
theorem d_R_keepStep_59 : decode prog_3_method_5_code 59 = .ok (.iinc 4 1, 3) := by decide +kernel
theorem d_R_keepStep_62 : decode prog_3_method_5_code 62 = .ok (.goto (-39), 3) := by decide +kernel
theorem d_R_keepStep_65 : decode prog_3_method_5_code 65 = .ok (.iinc 3 1, 3) := by decide +kernel
theorem d_R_keepStep_68 : decode prog_3_method_5_code 68 = .ok (.goto (-56), 3) := by decide +kernel
theorem d_R_keepStep_71 : decode prog_3_method_5_code 71 = .ok (.iinc 2 1, 3) := by decide +kernel
theorem d_R_keepStep_74 : decode prog_3_method_5_code 74 = .ok (.goto (-72), 3) := by decide +kernel
theorem d_R_keepStep_77 : decode prog_3_method_5_code 77 = .ok (.return_, 1) := by decide +kernel
abbrev WS_R_keepStep (cI cL cZ : ClassId)  (h0 a_amounts a_stepAmounts a_groupAmounts a_outsidersCredits a_openPlaces : Nat) (v_made : Int32) (v_companies : Int32) (v_accounts : Int32) (v_open : Int32) (v_amounts : (Nat → Int64)) (v_stepAmounts : (Nat → Int64)) : va_W := [(h0, .inr (1, [.int v_made, .int v_companies, .int v_accounts, .ref a_amounts, .ref a_stepAmounts, .ref a_groupAmounts, .ref a_outsidersCredits, .ref a_openPlaces, .int v_open])), (a_amounts, .inl (cL, 1872, .inr (.inl v_amounts))), (a_stepAmounts, .inl (cL, 432, .inr (.inl v_stepAmounts)))]
def wp_R_keepStep  (p0 : Int32) (v_companies : Int32) (v_accounts : Int32) (v_amounts : (Nat → Int64)) (v_stepAmounts : (Nat → Int64)) (post : (Nat → Int64) → Prop) : Prop := (∃ (I2 : Int32 → (Nat → Int64) → Prop) (μ2 : Int32 → (Nat → Int64) → Nat), I2 0 v_stepAmounts ∧ ∀ (l2_2 : Int32) (v_stepAmounts_2 : (Nat → Int64)), I2 l2_2 v_stepAmounts_2 → ((v_companies ≤ l2_2 → post v_stepAmounts_2) ∧ (¬ v_companies ≤ l2_2 → (∃ (I12 : Int32 → (Nat → Int64) → Prop) (μ12 : Int32 → (Nat → Int64) → Nat), I12 (-1) v_stepAmounts_2 ∧ ∀ (l3_12 : Int32) (v_stepAmounts_12 : (Nat → Int64)), I12 l3_12 v_stepAmounts_12 → ((v_companies ≤ l3_12 → I2 (l2_2 + 1) v_stepAmounts_12 ∧ μ2 (l2_2 + 1) v_stepAmounts_12 < μ2 l2_2 v_stepAmounts_2) ∧ (¬ v_companies ≤ l3_12 → (∃ (I23 : Int32 → (Nat → Int64) → Prop) (μ23 : Int32 → (Nat → Int64) → Nat), I23 0 v_stepAmounts_12 ∧ ∀ (l4_23 : Int32) (v_stepAmounts_23 : (Nat → Int64)), I23 l4_23 v_stepAmounts_23 → ((v_accounts ≤ l4_23 → I12 (l3_12 + 1) v_stepAmounts_23 ∧ μ12 (l3_12 + 1) v_stepAmounts_23 < μ12 l3_12 v_stepAmounts_12) ∧ (¬ v_accounts ≤ l4_23 → (wp_R_stepPlace p0 l2_2 l4_23 (fun (r40 : Int32) (u40 : Unit) => (vp_in r40 432 ∧ (wp_D_place l2_2 l3_12 l4_23 (fun (r53 : Int32) (u53 : Unit) => (vp_in r53 1872 ∧ (vp_in r40 432 ∧ I23 (l4_23 + 1) (vp_updL v_stepAmounts_23 r40.toNatClampNeg ((v_stepAmounts_23 r40.toNatClampNeg) + (v_amounts r53.toNatClampNeg))) ∧ μ23 (l4_23 + 1) (vp_updL v_stepAmounts_23 r40.toNatClampNeg ((v_stepAmounts_23 r40.toNatClampNeg) + (v_amounts r53.toNatClampNeg))) < μ23 l4_23 v_stepAmounts_23))))))))))))))))
abbrev ws_R_keepStep : List Cond := .code y_R_keepStep prog_3_method_5_code 5 none :: kxW
abbrev rm_R_keepStep : Room := { frames := 1, cells := 0, slots := 0, locals := 22 }
abbrev QC_R_keepStep (dC : Nat → ClassId) (dI : Nat → Nat → Nat) (cI cL cZ : ClassId) (A : Nat → Prop)  (h0 a_amounts a_stepAmounts a_groupAmounts a_outsidersCredits a_openPlaces : Nat) (v_made : Int32) (v_companies : Int32) (v_accounts : Int32) (v_open : Int32) (v_amounts : (Nat → Int64)) (v_stepAmounts : (Nat → Int64)) (post : (Nat → Int64) → Prop) : Array Value → State → Outcome → State → Prop := va_Qv post (fun (u : (Nat → Int64)) t => kx_B (dC, dI) classes A (WS_R_keepStep cI cL cZ h0 a_amounts a_stepAmounts a_groupAmounts a_outsidersCredits a_openPlaces v_made v_companies v_accounts v_open v_amounts u) t) A
set_option maxHeartbeats 4000000 in
set_option maxRecDepth 100000 in
theorem c_R_keepStep (l : Launch) (dC : Nat → ClassId) (dI : Nat → Nat → Nat) (cI cL cZ : ClassId)  (h0 a_amounts a_stepAmounts a_groupAmounts a_outsidersCredits a_openPlaces : Nat) (v_made : Int32) (v_companies : Int32) (v_accounts : Int32) (v_open : Int32) (v_amounts : (Nat → Int64)) (v_stepAmounts : (Nat → Int64)) (sz : Nat) (p0 : Int32) {post : (Nat → Int64) → Prop} (hw : wp_R_keepStep p0 v_companies v_accounts v_amounts v_stepAmounts post) : Met l y_R_keepStep ws_R_keepStep rm_R_keepStep (kx_Pc (dC, dI) classes (kx_T cI cL cZ) (WS_R_keepStep cI cL cZ h0 a_amounts a_stepAmounts a_groupAmounts a_outsidersCredits a_openPlaces v_made v_companies v_accounts v_open v_amounts v_stepAmounts) sz [.ref h0, .int p0]) (QC_R_keepStep dC dI cI cL cZ (va_A (WS_R_keepStep cI cL cZ h0 a_amounts a_stepAmounts a_groupAmounts a_outsidersCredits a_openPlaces v_made v_companies v_accounts v_open v_amounts v_stepAmounts) sz) h0 a_amounts a_stepAmounts a_groupAmounts a_outsidersCredits a_openPlaces v_made v_companies v_accounts v_open v_amounts v_stepAmounts post) 0 0 (va_A (WS_R_keepStep cI cL cZ h0 a_amounts a_stepAmounts a_groupAmounts a_outsidersCredits a_openPlaces v_made v_companies v_accounts v_open v_amounts v_stepAmounts) sz) := by
  refine Met.ofW (cc := prog_3_method_5_code) (maxL := 5) (ret := none) (by decide) rfl ?_
  intro p e s m args below meth c s₁ B hml hv
  obtain ⟨rfl, hsz, hP, hK, hD0, hN⟩ := hv
  have hx := B.exec
  have hb := B.bytes
  have hr := B.returns
  have hts := atoms_spec (ws := ws_R_keepStep) B.pre
  have hown : s.vm.findClass R_R = some m.cls := findClass_of_methodNamed B.named
  have hlocks := B.notSynchronized
  subst hsz
  have hD := hD0.self (sz := s.heap.size)
  generalize hAe : va_A (WS_R_keepStep cI cL cZ h0 a_amounts a_stepAmounts a_groupAmounts a_outsidersCredits a_openPlaces v_made v_companies v_accounts v_open v_amounts v_stepAmounts) s.heap.size = A at hD ⊢
  have hA : ∀ q : Nat, s.heap.size ≤ q → A q := fun q h => by rw [← hAe]; exact Or.inr h
  have hS : va_S A s.heap s.heap [] := va_S.rf
  have hP : va_P (dC, dI) classes (WS_R_keepStep cI cL cZ h0 a_amounts a_stepAmounts a_groupAmounts a_outsidersCredits a_openPlaces v_made v_companies v_accounts v_open v_amounts v_stepAmounts) s.heap := hP
  have hl := lv_entry ([.ref h0, .int p0]) (n := 5) (Nat.le_of_ble_eq_true rfl)
  rw [lg_entry_eq]
  generalize (lg_sl ([.ref h0, .int p0]) ++ List.replicate (5 - (lg_sl ([.ref h0, .int p0])).length) Slot.unset).toArray = ls at hl ⊢
  have hl : lv_has ls 5 [(0, .ref h0), (1, .int p0)] := hl
  unfold wp_R_keepStep at hw
  refine (show ∀ (H : Heap) (locs : List Loc), va_P (dC, dI) classes (WS_R_keepStep cI cL cZ h0 a_amounts a_stepAmounts a_groupAmounts a_outsidersCredits a_openPlaces v_made v_companies v_accounts v_open v_amounts v_stepAmounts) H → va_S A s.heap H locs → W p l e (headSpec ws_R_keepStep rm_R_keepStep).room s m ([.ref h0, .int p0] : List Value).toArray below meth c H locs 0 0 (MQ below (QC_R_keepStep dC dI cI cL cZ A h0 a_amounts a_stepAmounts a_groupAmounts a_outsidersCredits a_openPlaces v_made v_companies v_accounts v_open v_amounts v_stepAmounts post) ([.ref h0, .int p0] : List Value).toArray s 0 0 A) (F0 m 0 ls []) from ?_) _ _ hP hS
  intro H locs hP hS
  refine lv_iconst (v := 0) hx hb d_R_keepStep_0 (by decide) ?_
  refine lv_istore_n (lv' := [(2, .int 0), (0, .ref h0), (1, .int p0)]) hx hb d_R_keepStep_1 rfl hl (by decide) rfl (fun ls hl => ?_)
  have hl := lv_sub hl [1, 2, 0] rfl
  obtain ⟨I2, μ2, hi2, hs2⟩ := hw
  have L2 : ∀ (n : Nat) (l2_2 : Int32) (v_stepAmounts_2 : (Nat → Int64)) (H : Heap) (locs : List Loc) (ls : Array Slot), μ2 l2_2 v_stepAmounts_2 < n → I2 l2_2 v_stepAmounts_2 → lv_has ls 5 [(0, .ref h0), (1, .int p0), (2, .int l2_2)] → va_P (dC, dI) classes (WS_R_keepStep cI cL cZ h0 a_amounts a_stepAmounts a_groupAmounts a_outsidersCredits a_openPlaces v_made v_companies v_accounts v_open v_amounts v_stepAmounts_2) H → va_D A (WS_R_keepStep cI cL cZ h0 a_amounts a_stepAmounts a_groupAmounts a_outsidersCredits a_openPlaces v_made v_companies v_accounts v_open v_amounts v_stepAmounts_2) → va_S A s.heap H locs → W p l e (headSpec ws_R_keepStep rm_R_keepStep).room s m ([.ref h0, .int p0] : List Value).toArray below meth c H locs 0 0 (MQ below (QC_R_keepStep dC dI cI cL cZ A h0 a_amounts a_stepAmounts a_groupAmounts a_outsidersCredits a_openPlaces v_made v_companies v_accounts v_open v_amounts v_stepAmounts post) ([.ref h0, .int p0] : List Value).toArray s 0 0 A) (F0 m 2 ls []) := by
    intro n
    induction n with
    | zero => intro l2_2 v_stepAmounts_2 H locs ls hn; exact absurd hn (Nat.not_lt_zero _)
    | succ n ih2 =>
      intro l2_2 v_stepAmounts_2 H locs ls hn2 hI hl hP hD hS
      have hw := hs2 l2_2 v_stepAmounts_2 hI
      refine lv_iload_n hx hb d_R_keepStep_2 rfl (lv_at hl 2 rfl) ?_
      refine lv_aload_n hx hb d_R_keepStep_3 rfl (lv_at hl 0 rfl) ?_
      refine va_get (D := (dC, dI)) (ci := 1) (v := .int v_companies) (C := R_R) (T := F_R) (N := 9) hx hb hts (kx_in in_R) hown hK hP 0 rfl rfl 1 (by decide) (hts _ (kx_w iw_57)) (fun _ h9 => h9) rfl d_R_keepStep_4 ?_
      refine lv_icmp_ge (tgt := 77) hx hb d_R_keepStep_7 rfl (fun hc => ?_) (fun hc => ?_)
      ·
        have hw := hw.1 hc
        exact W.vret hx hb hr (fun t ht hW => ⟨⟨v_stepAmounts_2, rfl, hw, ⟨by rw [ht]; exact hP, hD⟩⟩, hS.F ht⟩) hS.2.2 d_R_keepStep_77
      ·
        have hw := hw.2 hc
        refine lv_iconst (v := (-1)) hx hb d_R_keepStep_10 (by decide) ?_
        refine lv_istore_n (lv' := [(3, .int (-1)), (0, .ref h0), (1, .int p0), (2, .int l2_2)]) hx hb d_R_keepStep_11 rfl hl (by decide) rfl (fun ls hl => ?_)
        have hl := lv_sub hl [1, 2, 3, 0] rfl
        obtain ⟨I12, μ12, hi12, hs12⟩ := hw
        have L12 : ∀ (n : Nat) (l3_12 : Int32) (v_stepAmounts_12 : (Nat → Int64)) (H : Heap) (locs : List Loc) (ls : Array Slot), μ12 l3_12 v_stepAmounts_12 < n → I12 l3_12 v_stepAmounts_12 → lv_has ls 5 [(0, .ref h0), (1, .int p0), (2, .int l2_2), (3, .int l3_12)] → va_P (dC, dI) classes (WS_R_keepStep cI cL cZ h0 a_amounts a_stepAmounts a_groupAmounts a_outsidersCredits a_openPlaces v_made v_companies v_accounts v_open v_amounts v_stepAmounts_12) H → va_D A (WS_R_keepStep cI cL cZ h0 a_amounts a_stepAmounts a_groupAmounts a_outsidersCredits a_openPlaces v_made v_companies v_accounts v_open v_amounts v_stepAmounts_12) → va_S A s.heap H locs → W p l e (headSpec ws_R_keepStep rm_R_keepStep).room s m ([.ref h0, .int p0] : List Value).toArray below meth c H locs 0 0 (MQ below (QC_R_keepStep dC dI cI cL cZ A h0 a_amounts a_stepAmounts a_groupAmounts a_outsidersCredits a_openPlaces v_made v_companies v_accounts v_open v_amounts v_stepAmounts post) ([.ref h0, .int p0] : List Value).toArray s 0 0 A) (F0 m 12 ls []) := by
          intro n
          induction n with
          | zero => intro l3_12 v_stepAmounts_12 H locs ls hn; exact absurd hn (Nat.not_lt_zero _)
          | succ n ih12 =>
            intro l3_12 v_stepAmounts_12 H locs ls hn12 hI hl hP hD hS
            have hw := hs12 l3_12 v_stepAmounts_12 hI
            refine lv_iload_n hx hb d_R_keepStep_12 rfl (lv_at hl 3 rfl) ?_
            refine lv_aload_n hx hb d_R_keepStep_13 rfl (lv_at hl 0 rfl) ?_
            refine va_get (D := (dC, dI)) (ci := 1) (v := .int v_companies) (C := R_R) (T := F_R) (N := 9) hx hb hts (kx_in in_R) hown hK hP 0 rfl rfl 1 (by decide) (hts _ (kx_w iw_57)) (fun _ h9 => h9) rfl d_R_keepStep_14 ?_
            refine lv_icmp_ge (tgt := 71) hx hb d_R_keepStep_17 rfl (fun hc => ?_) (fun hc => ?_)
            ·
              have hw := hw.1 hc
              refine lv_iinc (v := (l2_2 + 1)) (lv' := [(2, .int (l2_2 + 1)), (0, .ref h0), (1, .int p0), (3, .int l3_12)]) hx hb d_R_keepStep_71 hl (k := 2) rfl rfl (by decide) rfl (fun ls hl => ?_)
              refine lv_goto (tgt := 2) hx hb d_R_keepStep_74 rfl ?_
              have hl := lv_sub hl [1, 2, 0] rfl
              exact ih2 (l2_2 + 1) v_stepAmounts_12 _ _ _ (Nat.lt_of_lt_of_le hw.2 (Nat.le_of_lt_succ hn2)) hw.1 hl hP hD hS
            ·
              have hw := hw.2 hc
              refine lv_iconst (v := 0) hx hb d_R_keepStep_20 (by decide) ?_
              refine lv_istore (lv' := [(4, .int 0), (0, .ref h0), (1, .int p0), (2, .int l2_2), (3, .int l3_12)]) hx hb d_R_keepStep_21 hl (by decide) rfl (fun ls hl => ?_)
              have hl := lv_sub hl [1, 2, 3, 4, 0] rfl
              obtain ⟨I23, μ23, hi23, hs23⟩ := hw
              have L23 : ∀ (n : Nat) (l4_23 : Int32) (v_stepAmounts_23 : (Nat → Int64)) (H : Heap) (locs : List Loc) (ls : Array Slot), μ23 l4_23 v_stepAmounts_23 < n → I23 l4_23 v_stepAmounts_23 → lv_has ls 5 [(0, .ref h0), (1, .int p0), (2, .int l2_2), (3, .int l3_12), (4, .int l4_23)] → va_P (dC, dI) classes (WS_R_keepStep cI cL cZ h0 a_amounts a_stepAmounts a_groupAmounts a_outsidersCredits a_openPlaces v_made v_companies v_accounts v_open v_amounts v_stepAmounts_23) H → va_D A (WS_R_keepStep cI cL cZ h0 a_amounts a_stepAmounts a_groupAmounts a_outsidersCredits a_openPlaces v_made v_companies v_accounts v_open v_amounts v_stepAmounts_23) → va_S A s.heap H locs → W p l e (headSpec ws_R_keepStep rm_R_keepStep).room s m ([.ref h0, .int p0] : List Value).toArray below meth c H locs 0 0 (MQ below (QC_R_keepStep dC dI cI cL cZ A h0 a_amounts a_stepAmounts a_groupAmounts a_outsidersCredits a_openPlaces v_made v_companies v_accounts v_open v_amounts v_stepAmounts post) ([.ref h0, .int p0] : List Value).toArray s 0 0 A) (F0 m 23 ls []) := by
                intro n
                induction n with
                | zero => intro l4_23 v_stepAmounts_23 H locs ls hn; exact absurd hn (Nat.not_lt_zero _)
                | succ n ih23 =>
                  intro l4_23 v_stepAmounts_23 H locs ls hn23 hI hl hP hD hS
                  have hw := hs23 l4_23 v_stepAmounts_23 hI
                  refine lv_iload hx hb d_R_keepStep_23 (lv_at hl 4 rfl) ?_
                  refine lv_aload_n hx hb d_R_keepStep_25 rfl (lv_at hl 0 rfl) ?_
                  refine va_get (D := (dC, dI)) (ci := 1) (v := .int v_accounts) (C := R_R) (T := F_R) (N := 9) hx hb hts (kx_in in_R) hown hK hP 0 rfl rfl 2 (by decide) (hts _ (kx_w iw_58)) (fun _ h9 => h9) rfl d_R_keepStep_26 ?_
                  refine lv_icmp_ge (tgt := 65) hx hb d_R_keepStep_29 rfl (fun hc => ?_) (fun hc => ?_)
                  ·
                    have hw := hw.1 hc
                    refine lv_iinc (v := (l3_12 + 1)) (lv' := [(3, .int (l3_12 + 1)), (0, .ref h0), (1, .int p0), (2, .int l2_2), (4, .int l4_23)]) hx hb d_R_keepStep_65 hl (k := 3) rfl rfl (by decide) rfl (fun ls hl => ?_)
                    refine lv_goto (tgt := 12) hx hb d_R_keepStep_68 rfl ?_
                    have hl := lv_sub hl [1, 2, 3, 0] rfl
                    exact ih12 (l3_12 + 1) v_stepAmounts_23 _ _ _ (Nat.lt_of_lt_of_le hw.2 (Nat.le_of_lt_succ hn12)) hw.1 hl hP hD hS
                  ·
                    have hw := hw.2 hc
                    refine lv_aload_n hx hb d_R_keepStep_32 rfl (lv_at hl 0 rfl) ?_
                    refine va_get (D := (dC, dI)) (ci := 1) (v := .ref a_stepAmounts) (C := R_R) (T := F_R) (N := 9) hx hb hts (kx_in in_R) hown hK hP 0 rfl rfl 4 (by decide) (hts _ (kx_w iw_60)) (fun _ h9 => h9) rfl d_R_keepStep_33 ?_
                    refine lv_iload_n hx hb d_R_keepStep_36 rfl (lv_at hl 1 rfl) ?_
                    refine lv_iload_n hx hb d_R_keepStep_37 rfl (lv_at hl 2 rfl) ?_
                    refine lv_iload hx hb d_R_keepStep_38 (lv_at hl 4 rfl) ?_
                    refine kx_calli (ws' := fun u40 => (WS_R_keepStep cI cL cZ h0 a_amounts a_stepAmounts a_groupAmounts a_outsidersCredits a_openPlaces v_made v_companies v_accounts v_open v_amounts v_stepAmounts_23)) (va_runS (As := [.int p0, .int l2_2, .int l4_23]) (rest := [.ref a_stepAmounts]) ⟨hx, hb, hml, hown, hts⟩ (c_R_stepPlace l dC dI cI cL cZ  H.size p0 l2_2 l4_23 hw) ⟨(callB_of 3 hts (kx_good iw_295) rfl rfl rfl (hts _ (kx_w iw_3)) (hts _ (kx_w iw_293)) (by decide +kernel) ⟨Nat.le_of_ble_eq_true rfl, Nat.le_of_ble_eq_true rfl⟩), (hts _ (kx_w iw_294))⟩ (kx_preS hN hK hP hD [] (by decide) rfl) rfl rfl hl.1 rfl (lv_room (Nat.le_of_ble_eq_true rfl)) d_R_keepStep_40 ⟨Nat.le_of_ble_eq_true rfl, Nat.le_of_ble_eq_true rfl⟩) hP hD hS hA [] [0, 1, 2] rfl rfl (by decide) (by decide) [0, 1, 2] (by decide) (fun _ => rfl) (fun r40 u40 H locs hw hP hD hS => ?_)
                    have hP : va_P (dC, dI) classes (WS_R_keepStep cI cL cZ h0 a_amounts a_stepAmounts a_groupAmounts a_outsidersCredits a_openPlaces v_made v_companies v_accounts v_open v_amounts v_stepAmounts_23) H := hP
                    have hD : va_D A (WS_R_keepStep cI cL cZ h0 a_amounts a_stepAmounts a_groupAmounts a_outsidersCredits a_openPlaces v_made v_companies v_accounts v_open v_amounts v_stepAmounts_23) := hD
                    refine lv_dup2_11 hx hb d_R_keepStep_43 rfl rfl ?_
                    obtain ⟨hi, hw⟩ := hw
                    refine va_lald hx hb hK hP 2 1 rfl rfl hi d_R_keepStep_44 ?_
                    refine lv_aload_n hx hb d_R_keepStep_45 rfl (lv_at hl 0 rfl) ?_
                    refine va_get (D := (dC, dI)) (ci := 1) (v := .ref a_amounts) (C := R_R) (T := F_R) (N := 9) hx hb hts (kx_in in_R) hown hK hP 0 rfl rfl 3 (by decide) (hts _ (kx_w iw_59)) (fun _ h9 => h9) rfl d_R_keepStep_46 ?_
                    refine lv_iload_n hx hb d_R_keepStep_49 rfl (lv_at hl 2 rfl) ?_
                    refine lv_iload_n hx hb d_R_keepStep_50 rfl (lv_at hl 3 rfl) ?_
                    refine lv_iload hx hb d_R_keepStep_51 (lv_at hl 4 rfl) ?_
                    refine kx_calli (ws' := fun u53 => (WS_R_keepStep cI cL cZ h0 a_amounts a_stepAmounts a_groupAmounts a_outsidersCredits a_openPlaces v_made v_companies v_accounts v_open v_amounts v_stepAmounts_23)) (va_runSN (As := [.int l2_2, .int l3_12, .int l4_23]) (rest := [.ref a_amounts, .long (v_stepAmounts_23 r40.toNatClampNeg), .int r40, .ref a_stepAmounts]) ⟨hx, hb, hml, hown, hts⟩ (c_D_place l dC dI cI cL cZ  H.size l2_2 l3_12 l4_23 hw) ⟨(va_cnB 3 hts (kx_good iw_212) rfl rfl rfl hN (hts _ (kx_w iw_1)) (by decide +kernel) ⟨Nat.le_of_ble_eq_true rfl, Nat.le_of_ble_eq_true rfl⟩), (hts _ (kx_w iw_211)), trivial⟩ (kx_preS hN hK hP hD [] (by decide) rfl) rfl rfl hl.1 rfl (lv_room (Nat.le_of_ble_eq_true rfl)) d_R_keepStep_53 ⟨Nat.le_of_ble_eq_true rfl, Nat.le_of_ble_eq_true rfl⟩) hP hD hS hA [] [0, 1, 2] rfl rfl (by decide) (by decide) [0, 1, 2] (by decide) (fun _ => rfl) (fun r53 u53 H locs hw hP hD hS => ?_)
                    have hP : va_P (dC, dI) classes (WS_R_keepStep cI cL cZ h0 a_amounts a_stepAmounts a_groupAmounts a_outsidersCredits a_openPlaces v_made v_companies v_accounts v_open v_amounts v_stepAmounts_23) H := hP
                    have hD : va_D A (WS_R_keepStep cI cL cZ h0 a_amounts a_stepAmounts a_groupAmounts a_outsidersCredits a_openPlaces v_made v_companies v_accounts v_open v_amounts v_stepAmounts_23) := hD
                    obtain ⟨hi, hw⟩ := hw
                    refine va_lald hx hb hK hP 1 1 rfl rfl hi d_R_keepStep_56 ?_
                    refine lv_ladd hx hb d_R_keepStep_57 ?_
                    obtain ⟨hi, hw⟩ := hw
                    refine va_last hx hb hK hP hD hS 2 1 rfl rfl hi d_R_keepStep_58 (fun H locs hP hD hS => ?_)
                    have hP : va_P (dC, dI) classes (WS_R_keepStep cI cL cZ h0 a_amounts a_stepAmounts a_groupAmounts a_outsidersCredits a_openPlaces v_made v_companies v_accounts v_open v_amounts (vp_updL v_stepAmounts_23 r40.toNatClampNeg ((v_stepAmounts_23 r40.toNatClampNeg) + (v_amounts r53.toNatClampNeg)))) H := hP
                    have hD : va_D A (WS_R_keepStep cI cL cZ h0 a_amounts a_stepAmounts a_groupAmounts a_outsidersCredits a_openPlaces v_made v_companies v_accounts v_open v_amounts (vp_updL v_stepAmounts_23 r40.toNatClampNeg ((v_stepAmounts_23 r40.toNatClampNeg) + (v_amounts r53.toNatClampNeg)))) := hD
                    refine lv_iinc (v := (l4_23 + 1)) (lv' := [(4, .int (l4_23 + 1)), (0, .ref h0), (1, .int p0), (2, .int l2_2), (3, .int l3_12)]) hx hb d_R_keepStep_59 hl (k := 4) rfl rfl (by decide) rfl (fun ls hl => ?_)
                    refine lv_goto (tgt := 23) hx hb d_R_keepStep_62 rfl ?_
                    have hl := lv_sub hl [1, 2, 3, 4, 0] rfl
                    exact ih23 (l4_23 + 1) (vp_updL v_stepAmounts_23 r40.toNatClampNeg ((v_stepAmounts_23 r40.toNatClampNeg) + (v_amounts r53.toNatClampNeg))) _ _ _ (Nat.lt_of_lt_of_le hw.2 (Nat.le_of_lt_succ hn23)) hw.1 hl hP hD hS
              exact L23 _ 0 v_stepAmounts_12 _ _ _ (Nat.lt_succ_self _) hi23 hl hP hD hS
        exact L12 _ (-1) v_stepAmounts_2 _ _ _ (Nat.lt_succ_self _) hi12 hl hP hD hS
  exact L2 _ 0 v_stepAmounts _ _ _ (Nat.lt_succ_self _) hi2 hl hP hD hS
/-! ConsolidationDesk$Report.eliminate(II)V -/
abbrev y_R_eliminate : MethodName := ⟨"ConsolidationDesk$Report", "eliminate", "(II)V"⟩
theorem d_R_eliminate_0 : decode prog_3_method_6_code 0 = .ok (.iconst 0, 1) := by decide +kernel
theorem d_R_eliminate_1 : decode prog_3_method_6_code 1 = .ok (.istore_n 3, 1) := by decide +kernel
theorem d_R_eliminate_2 : decode prog_3_method_6_code 2 = .ok (.iload_n 3, 1) := by decide +kernel
theorem d_R_eliminate_3 : decode prog_3_method_6_code 3 = .ok (.aload_n 0, 1) := by decide +kernel
theorem d_R_eliminate_4 : decode prog_3_method_6_code 4 = .ok (.getfield 19, 3) := by decide +kernel
theorem d_R_eliminate_7 : decode prog_3_method_6_code 7 = .ok (.if_icmp .ge 149, 3) := by decide +kernel
theorem d_R_eliminate_10 : decode prog_3_method_6_code 10 = .ok (.iload_n 1, 1) := by decide +kernel
theorem d_R_eliminate_11 : decode prog_3_method_6_code 11 = .ok (.iload_n 2, 1) := by decide +kernel
theorem d_R_eliminate_12 : decode prog_3_method_6_code 12 = .ok (.iload_n 3, 1) := by decide +kernel
theorem d_R_eliminate_13 : decode prog_3_method_6_code 13 = .ok (.invokestatic 48, 3) := by decide +kernel
theorem d_R_eliminate_16 : decode prog_3_method_6_code 16 = .ok (.istore 4, 2) := by decide +kernel
theorem d_R_eliminate_18 : decode prog_3_method_6_code 18 = .ok (.iload_n 2, 1) := by decide +kernel
theorem d_R_eliminate_19 : decode prog_3_method_6_code 19 = .ok (.iload_n 1, 1) := by decide +kernel
theorem d_R_eliminate_20 : decode prog_3_method_6_code 20 = .ok (.iload_n 3, 1) := by decide +kernel
theorem d_R_eliminate_21 : decode prog_3_method_6_code 21 = .ok (.invokestatic 48, 3) := by decide +kernel
theorem d_R_eliminate_24 : decode prog_3_method_6_code 24 = .ok (.istore 5, 2) := by decide +kernel
theorem d_R_eliminate_26 : decode prog_3_method_6_code 26 = .ok (.aload_n 0, 1) := by decide +kernel
theorem d_R_eliminate_27 : decode prog_3_method_6_code 27 = .ok (.getfield 22, 3) := by decide +kernel
theorem d_R_eliminate_30 : decode prog_3_method_6_code 30 = .ok (.iload 4, 2) := by decide +kernel
theorem d_R_eliminate_32 : decode prog_3_method_6_code 32 = .ok (.laload, 1) := by decide +kernel
theorem d_R_eliminate_33 : decode prog_3_method_6_code 33 = .ok (.invokestatic 55, 3) := by decide +kernel
theorem d_R_eliminate_36 : decode prog_3_method_6_code 36 = .ok (.aload_n 0, 1) := by decide +kernel
theorem d_R_eliminate_37 : decode prog_3_method_6_code 37 = .ok (.getfield 22, 3) := by decide +kernel
theorem d_R_eliminate_40 : decode prog_3_method_6_code 40 = .ok (.iload 5, 2) := by decide +kernel
theorem d_R_eliminate_42 : decode prog_3_method_6_code 42 = .ok (.laload, 1) := by decide +kernel
theorem d_R_eliminate_43 : decode prog_3_method_6_code 43 = .ok (.invokestatic 55, 3) := by decide +kernel
theorem d_R_eliminate_46 : decode prog_3_method_6_code 46 = .ok (.invokestatic 61, 3) := by decide +kernel
theorem d_R_eliminate_49 : decode prog_3_method_6_code 49 = .ok (.lstore 6, 2) := by decide +kernel
theorem d_R_eliminate_51 : decode prog_3_method_6_code 51 = .ok (.aload_n 0, 1) := by decide +kernel
theorem d_R_eliminate_52 : decode prog_3_method_6_code 52 = .ok (.getfield 22, 3) := by decide +kernel
theorem d_R_eliminate_55 : decode prog_3_method_6_code 55 = .ok (.iload 4, 2) := by decide +kernel
theorem d_R_eliminate_57 : decode prog_3_method_6_code 57 = .ok (.laload, 1) := by decide +kernel
theorem d_R_eliminate_58 : decode prog_3_method_6_code 58 = .ok (.lconst 0, 1) := by decide +kernel
theorem d_R_eliminate_59 : decode prog_3_method_6_code 59 = .ok (.lcmp, 1) := by decide +kernel
theorem d_R_eliminate_60 : decode prog_3_method_6_code 60 = .ok (.ifCond .le 42, 3) := by decide +kernel
theorem d_R_eliminate_63 : decode prog_3_method_6_code 63 = .ok (.aload_n 0, 1) := by decide +kernel
theorem d_R_eliminate_64 : decode prog_3_method_6_code 64 = .ok (.getfield 22, 3) := by decide +kernel
theorem d_R_eliminate_67 : decode prog_3_method_6_code 67 = .ok (.iload 5, 2) := by decide +kernel
theorem d_R_eliminate_69 : decode prog_3_method_6_code 69 = .ok (.laload, 1) := by decide +kernel
theorem d_R_eliminate_70 : decode prog_3_method_6_code 70 = .ok (.lconst 0, 1) := by decide +kernel
theorem d_R_eliminate_71 : decode prog_3_method_6_code 71 = .ok (.lcmp, 1) := by decide +kernel
theorem d_R_eliminate_72 : decode prog_3_method_6_code 72 = .ok (.ifCond .ge 30, 3) := by decide +kernel
theorem d_R_eliminate_75 : decode prog_3_method_6_code 75 = .ok (.aload_n 0, 1) := by decide +kernel
theorem d_R_eliminate_76 : decode prog_3_method_6_code 76 = .ok (.getfield 22, 3) := by decide +kernel
theorem d_R_eliminate_79 : decode prog_3_method_6_code 79 = .ok (.iload 4, 2) := by decide +kernel
theorem d_R_eliminate_81 : decode prog_3_method_6_code 81 = .ok (.dup2, 1) := by decide +kernel
theorem d_R_eliminate_82 : decode prog_3_method_6_code 82 = .ok (.laload, 1) := by decide +kernel
theorem d_R_eliminate_83 : decode prog_3_method_6_code 83 = .ok (.lload 6, 2) := by decide +kernel
theorem d_R_eliminate_85 : decode prog_3_method_6_code 85 = .ok (.lsub, 1) := by decide +kernel
theorem d_R_eliminate_86 : decode prog_3_method_6_code 86 = .ok (.lastore, 1) := by decide +kernel
theorem d_R_eliminate_87 : decode prog_3_method_6_code 87 = .ok (.aload_n 0, 1) := by decide +kernel
theorem d_R_eliminate_88 : decode prog_3_method_6_code 88 = .ok (.getfield 22, 3) := by decide +kernel
theorem d_R_eliminate_91 : decode prog_3_method_6_code 91 = .ok (.iload 5, 2) := by decide +kernel
theorem d_R_eliminate_93 : decode prog_3_method_6_code 93 = .ok (.dup2, 1) := by decide +kernel
theorem d_R_eliminate_94 : decode prog_3_method_6_code 94 = .ok (.laload, 1) := by decide +kernel
theorem d_R_eliminate_95 : decode prog_3_method_6_code 95 = .ok (.lload 6, 2) := by decide +kernel
theorem d_R_eliminate_97 : decode prog_3_method_6_code 97 = .ok (.ladd, 1) := by decide +kernel
theorem d_R_eliminate_98 : decode prog_3_method_6_code 98 = .ok (.lastore, 1) := by decide +kernel
theorem d_R_eliminate_99 : decode prog_3_method_6_code 99 = .ok (.goto 51, 3) := by decide +kernel
theorem d_R_eliminate_102 : decode prog_3_method_6_code 102 = .ok (.aload_n 0, 1) := by decide +kernel
theorem d_R_eliminate_103 : decode prog_3_method_6_code 103 = .ok (.getfield 22, 3) := by decide +kernel
theorem d_R_eliminate_106 : decode prog_3_method_6_code 106 = .ok (.iload 4, 2) := by decide +kernel
theorem d_R_eliminate_108 : decode prog_3_method_6_code 108 = .ok (.laload, 1) := by decide +kernel
theorem d_R_eliminate_109 : decode prog_3_method_6_code 109 = .ok (.lconst 0, 1) := by decide +kernel
theorem d_R_eliminate_110 : decode prog_3_method_6_code 110 = .ok (.lcmp, 1) := by decide +kernel
theorem d_R_eliminate_111 : decode prog_3_method_6_code 111 = .ok (.ifCond .ge 39, 3) := by decide +kernel
theorem d_R_eliminate_114 : decode prog_3_method_6_code 114 = .ok (.aload_n 0, 1) := by decide +kernel
theorem d_R_eliminate_115 : decode prog_3_method_6_code 115 = .ok (.getfield 22, 3) := by decide +kernel
theorem d_R_eliminate_118 : decode prog_3_method_6_code 118 = .ok (.iload 5, 2) := by decide +kernel
theorem d_R_eliminate_120 : decode prog_3_method_6_code 120 = .ok (.laload, 1) := by decide +kernel
theorem d_R_eliminate_121 : decode prog_3_method_6_code 121 = .ok (.lconst 0, 1) := by decide +kernel
theorem d_R_eliminate_122 : decode prog_3_method_6_code 122 = .ok (.lcmp, 1) := by decide +kernel
theorem d_R_eliminate_123 : decode prog_3_method_6_code 123 = .ok (.ifCond .le 27, 3) := by decide +kernel
theorem d_R_eliminate_126 : decode prog_3_method_6_code 126 = .ok (.aload_n 0, 1) := by decide +kernel
theorem d_R_eliminate_127 : decode prog_3_method_6_code 127 = .ok (.getfield 22, 3) := by decide +kernel
theorem d_R_eliminate_130 : decode prog_3_method_6_code 130 = .ok (.iload 4, 2) := by decide +kernel
theorem d_R_eliminate_132 : decode prog_3_method_6_code 132 = .ok (.dup2, 1) := by decide +kernel
theorem d_R_eliminate_133 : decode prog_3_method_6_code 133 = .ok (.laload, 1) := by decide +kernel
theorem d_R_eliminate_134 : decode prog_3_method_6_code 134 = .ok (.lload 6, 2) := by decide +kernel
theorem d_R_eliminate_136 : decode prog_3_method_6_code 136 = .ok (.ladd, 1) := by decide +kernel
theorem d_R_eliminate_137 : decode prog_3_method_6_code 137 = .ok (.lastore, 1) := by decide +kernel
theorem d_R_eliminate_138 : decode prog_3_method_6_code 138 = .ok (.aload_n 0, 1) := by decide +kernel
theorem d_R_eliminate_139 : decode prog_3_method_6_code 139 = .ok (.getfield 22, 3) := by decide +kernel
theorem d_R_eliminate_142 : decode prog_3_method_6_code 142 = .ok (.iload 5, 2) := by decide +kernel
theorem d_R_eliminate_144 : decode prog_3_method_6_code 144 = .ok (.dup2, 1) := by decide +kernel
theorem d_R_eliminate_145 : decode prog_3_method_6_code 145 = .ok (.laload, 1) := by decide +kernel
theorem d_R_eliminate_146 : decode prog_3_method_6_code 146 = .ok (.lload 6, 2) := by decide +kernel
theorem d_R_eliminate_148 : decode prog_3_method_6_code 148 = .ok (.lsub, 1) := by decide +kernel
theorem d_R_eliminate_149 : decode prog_3_method_6_code 149 = .ok (.lastore, 1) := by decide +kernel
theorem d_R_eliminate_150 : decode prog_3_method_6_code 150 = .ok (.iinc 3 1, 3) := by decide +kernel
theorem d_R_eliminate_153 : decode prog_3_method_6_code 153 = .ok (.goto (-151), 3) := by decide +kernel
theorem d_R_eliminate_156 : decode prog_3_method_6_code 156 = .ok (.return_, 1) := by decide +kernel
abbrev WS_R_eliminate (cI cL cZ : ClassId)  (h0 a_amounts a_stepAmounts a_groupAmounts a_outsidersCredits a_openPlaces : Nat) (v_made : Int32) (v_companies : Int32) (v_accounts : Int32) (v_open : Int32) (v_amounts : (Nat → Int64)) : va_W := [(h0, .inr (1, [.int v_made, .int v_companies, .int v_accounts, .ref a_amounts, .ref a_stepAmounts, .ref a_groupAmounts, .ref a_outsidersCredits, .ref a_openPlaces, .int v_open])), (a_amounts, .inl (cL, 1872, .inr (.inl v_amounts)))]
def wp_R_eliminate  (p0 : Int32) (p1 : Int32) (v_accounts : Int32) (v_amounts : (Nat → Int64)) (post : (Nat → Int64) → Prop) : Prop := (∃ (I2 : Int32 → (Nat → Int64) → Prop) (μ2 : Int32 → (Nat → Int64) → Nat), I2 0 v_amounts ∧ ∀ (l3_2 : Int32) (v_amounts_2 : (Nat → Int64)), I2 l3_2 v_amounts_2 → ((v_accounts ≤ l3_2 → post v_amounts_2) ∧ (¬ v_accounts ≤ l3_2 → (wp_D_place p0 p1 l3_2 (fun (r13 : Int32) (u13 : Unit) => (wp_D_place p1 p0 l3_2 (fun (r21 : Int32) (u21 : Unit) => (vp_in r13 1872 ∧ (vp_in r21 1872 ∧ (∀ x49 : Int64, x49 = (if (if 0 < (v_amounts_2 r21.toNatClampNeg) then (v_amounts_2 r21.toNatClampNeg) else -(v_amounts_2 r21.toNatClampNeg)) < (if 0 < (v_amounts_2 r13.toNatClampNeg) then (v_amounts_2 r13.toNatClampNeg) else -(v_amounts_2 r13.toNatClampNeg)) then (if 0 < (v_amounts_2 r21.toNatClampNeg) then (v_amounts_2 r21.toNatClampNeg) else -(v_amounts_2 r21.toNatClampNeg)) else (if 0 < (v_amounts_2 r13.toNatClampNeg) then (v_amounts_2 r13.toNatClampNeg) else -(v_amounts_2 r13.toNatClampNeg))) → (vp_in r13 1872 ∧ (((v_amounts_2 r13.toNatClampNeg) ≤ 0 → (vp_in r13 1872 ∧ ((0 ≤ (v_amounts_2 r13.toNatClampNeg) → I2 (l3_2 + 1) v_amounts_2 ∧ μ2 (l3_2 + 1) v_amounts_2 < μ2 l3_2 v_amounts_2) ∧ (¬ 0 ≤ (v_amounts_2 r13.toNatClampNeg) → (vp_in r21 1872 ∧ (((v_amounts_2 r21.toNatClampNeg) ≤ 0 → I2 (l3_2 + 1) v_amounts_2 ∧ μ2 (l3_2 + 1) v_amounts_2 < μ2 l3_2 v_amounts_2) ∧ (¬ (v_amounts_2 r21.toNatClampNeg) ≤ 0 → (vp_in r13 1872 ∧ (vp_in r13 1872 ∧ (vp_in r21 1872 ∧ (vp_in r21 1872 ∧ I2 (l3_2 + 1) (vp_updL (vp_updL v_amounts_2 r13.toNatClampNeg ((v_amounts_2 r13.toNatClampNeg) + x49)) r21.toNatClampNeg (((vp_updL v_amounts_2 r13.toNatClampNeg ((v_amounts_2 r13.toNatClampNeg) + x49)) r21.toNatClampNeg) - x49)) ∧ μ2 (l3_2 + 1) (vp_updL (vp_updL v_amounts_2 r13.toNatClampNeg ((v_amounts_2 r13.toNatClampNeg) + x49)) r21.toNatClampNeg (((vp_updL v_amounts_2 r13.toNatClampNeg ((v_amounts_2 r13.toNatClampNeg) + x49)) r21.toNatClampNeg) - x49)) < μ2 l3_2 v_amounts_2))))))))))) ∧ (¬ (v_amounts_2 r13.toNatClampNeg) ≤ 0 → (vp_in r21 1872 ∧ ((0 ≤ (v_amounts_2 r21.toNatClampNeg) → (vp_in r13 1872 ∧ ((0 ≤ (v_amounts_2 r13.toNatClampNeg) → I2 (l3_2 + 1) v_amounts_2 ∧ μ2 (l3_2 + 1) v_amounts_2 < μ2 l3_2 v_amounts_2) ∧ (¬ 0 ≤ (v_amounts_2 r13.toNatClampNeg) → (vp_in r21 1872 ∧ (((v_amounts_2 r21.toNatClampNeg) ≤ 0 → I2 (l3_2 + 1) v_amounts_2 ∧ μ2 (l3_2 + 1) v_amounts_2 < μ2 l3_2 v_amounts_2) ∧ (¬ (v_amounts_2 r21.toNatClampNeg) ≤ 0 → (vp_in r13 1872 ∧ (vp_in r13 1872 ∧ (vp_in r21 1872 ∧ (vp_in r21 1872 ∧ I2 (l3_2 + 1) (vp_updL (vp_updL v_amounts_2 r13.toNatClampNeg ((v_amounts_2 r13.toNatClampNeg) + x49)) r21.toNatClampNeg (((vp_updL v_amounts_2 r13.toNatClampNeg ((v_amounts_2 r13.toNatClampNeg) + x49)) r21.toNatClampNeg) - x49)) ∧ μ2 (l3_2 + 1) (vp_updL (vp_updL v_amounts_2 r13.toNatClampNeg ((v_amounts_2 r13.toNatClampNeg) + x49)) r21.toNatClampNeg (((vp_updL v_amounts_2 r13.toNatClampNeg ((v_amounts_2 r13.toNatClampNeg) + x49)) r21.toNatClampNeg) - x49)) < μ2 l3_2 v_amounts_2))))))))))) ∧ (¬ 0 ≤ (v_amounts_2 r21.toNatClampNeg) → (vp_in r13 1872 ∧ (vp_in r13 1872 ∧ (vp_in r21 1872 ∧ (vp_in r21 1872 ∧ I2 (l3_2 + 1) (vp_updL (vp_updL v_amounts_2 r13.toNatClampNeg ((v_amounts_2 r13.toNatClampNeg) - x49)) r21.toNatClampNeg (((vp_updL v_amounts_2 r13.toNatClampNeg ((v_amounts_2 r13.toNatClampNeg) - x49)) r21.toNatClampNeg) + x49)) ∧ μ2 (l3_2 + 1) (vp_updL (vp_updL v_amounts_2 r13.toNatClampNeg ((v_amounts_2 r13.toNatClampNeg) - x49)) r21.toNatClampNeg (((vp_updL v_amounts_2 r13.toNatClampNeg ((v_amounts_2 r13.toNatClampNeg) - x49)) r21.toNatClampNeg) + x49)) < μ2 l3_2 v_amounts_2))))))))))))))))))))
abbrev ws_R_eliminate : List Cond := .code y_R_eliminate prog_3_method_6_code 8 none :: kxW
abbrev rm_R_eliminate : Room := { frames := 1, cells := 0, slots := 0, locals := 60 }
abbrev QC_R_eliminate (dC : Nat → ClassId) (dI : Nat → Nat → Nat) (cI cL cZ : ClassId) (A : Nat → Prop)  (h0 a_amounts a_stepAmounts a_groupAmounts a_outsidersCredits a_openPlaces : Nat) (v_made : Int32) (v_companies : Int32) (v_accounts : Int32) (v_open : Int32) (v_amounts : (Nat → Int64)) (post : (Nat → Int64) → Prop) : Array Value → State → Outcome → State → Prop := va_Qv post (fun (u : (Nat → Int64)) t => kx_B (dC, dI) classes A (WS_R_eliminate cI cL cZ h0 a_amounts a_stepAmounts a_groupAmounts a_outsidersCredits a_openPlaces v_made v_companies v_accounts v_open u) t) A
set_option maxHeartbeats 4000000 in
set_option maxRecDepth 100000 in
theorem c_R_eliminate (l : Launch) (dC : Nat → ClassId) (dI : Nat → Nat → Nat) (cI cL cZ : ClassId)  (h0 a_amounts a_stepAmounts a_groupAmounts a_outsidersCredits a_openPlaces : Nat) (v_made : Int32) (v_companies : Int32) (v_accounts : Int32) (v_open : Int32) (v_amounts : (Nat → Int64)) (sz : Nat) (p0 : Int32) (p1 : Int32) {post : (Nat → Int64) → Prop} (hw : wp_R_eliminate p0 p1 v_accounts v_amounts post) : Met l y_R_eliminate ws_R_eliminate rm_R_eliminate (kx_Pc (dC, dI) classes (kx_T cI cL cZ) (WS_R_eliminate cI cL cZ h0 a_amounts a_stepAmounts a_groupAmounts a_outsidersCredits a_openPlaces v_made v_companies v_accounts v_open v_amounts) sz [.ref h0, .int p0, .int p1]) (QC_R_eliminate dC dI cI cL cZ (va_A (WS_R_eliminate cI cL cZ h0 a_amounts a_stepAmounts a_groupAmounts a_outsidersCredits a_openPlaces v_made v_companies v_accounts v_open v_amounts) sz) h0 a_amounts a_stepAmounts a_groupAmounts a_outsidersCredits a_openPlaces v_made v_companies v_accounts v_open v_amounts post) 0 0 (va_A (WS_R_eliminate cI cL cZ h0 a_amounts a_stepAmounts a_groupAmounts a_outsidersCredits a_openPlaces v_made v_companies v_accounts v_open v_amounts) sz) := by
  refine Met.ofW (cc := prog_3_method_6_code) (maxL := 8) (ret := none) (by decide) rfl ?_
  intro p e s m args below meth c s₁ B hml hv
  obtain ⟨rfl, hsz, hP, hK, hD0, hN⟩ := hv
  have hx := B.exec
  have hb := B.bytes
  have hr := B.returns
  have hts := atoms_spec (ws := ws_R_eliminate) B.pre
  have hown : s.vm.findClass R_R = some m.cls := findClass_of_methodNamed B.named
  have hlocks := B.notSynchronized
  subst hsz
  have hD := hD0.self (sz := s.heap.size)
  generalize hAe : va_A (WS_R_eliminate cI cL cZ h0 a_amounts a_stepAmounts a_groupAmounts a_outsidersCredits a_openPlaces v_made v_companies v_accounts v_open v_amounts) s.heap.size = A at hD ⊢
  have hA : ∀ q : Nat, s.heap.size ≤ q → A q := fun q h => by rw [← hAe]; exact Or.inr h
  have hS : va_S A s.heap s.heap [] := va_S.rf
  have hP : va_P (dC, dI) classes (WS_R_eliminate cI cL cZ h0 a_amounts a_stepAmounts a_groupAmounts a_outsidersCredits a_openPlaces v_made v_companies v_accounts v_open v_amounts) s.heap := hP
  have hl := lv_entry ([.ref h0, .int p0, .int p1]) (n := 8) (Nat.le_of_ble_eq_true rfl)
  rw [lg_entry_eq]
  generalize (lg_sl ([.ref h0, .int p0, .int p1]) ++ List.replicate (8 - (lg_sl ([.ref h0, .int p0, .int p1])).length) Slot.unset).toArray = ls at hl ⊢
  have hl : lv_has ls 8 [(0, .ref h0), (1, .int p0), (2, .int p1)] := hl
  unfold wp_R_eliminate at hw
  refine (show ∀ (H : Heap) (locs : List Loc), va_P (dC, dI) classes (WS_R_eliminate cI cL cZ h0 a_amounts a_stepAmounts a_groupAmounts a_outsidersCredits a_openPlaces v_made v_companies v_accounts v_open v_amounts) H → va_S A s.heap H locs → W p l e (headSpec ws_R_eliminate rm_R_eliminate).room s m ([.ref h0, .int p0, .int p1] : List Value).toArray below meth c H locs 0 0 (MQ below (QC_R_eliminate dC dI cI cL cZ A h0 a_amounts a_stepAmounts a_groupAmounts a_outsidersCredits a_openPlaces v_made v_companies v_accounts v_open v_amounts post) ([.ref h0, .int p0, .int p1] : List Value).toArray s 0 0 A) (F0 m 0 ls []) from ?_) _ _ hP hS
  intro H locs hP hS
  refine lv_iconst (v := 0) hx hb d_R_eliminate_0 (by decide) ?_
  refine lv_istore_n (lv' := [(3, .int 0), (0, .ref h0), (1, .int p0), (2, .int p1)]) hx hb d_R_eliminate_1 rfl hl (by decide) rfl (fun ls hl => ?_)
  have hl := lv_sub hl [1, 2, 3, 0] rfl
  obtain ⟨I2, μ2, hi2, hs2⟩ := hw
  have L2 : ∀ (n : Nat) (l3_2 : Int32) (v_amounts_2 : (Nat → Int64)) (H : Heap) (locs : List Loc) (ls : Array Slot), μ2 l3_2 v_amounts_2 < n → I2 l3_2 v_amounts_2 → lv_has ls 8 [(0, .ref h0), (1, .int p0), (2, .int p1), (3, .int l3_2)] → va_P (dC, dI) classes (WS_R_eliminate cI cL cZ h0 a_amounts a_stepAmounts a_groupAmounts a_outsidersCredits a_openPlaces v_made v_companies v_accounts v_open v_amounts_2) H → va_D A (WS_R_eliminate cI cL cZ h0 a_amounts a_stepAmounts a_groupAmounts a_outsidersCredits a_openPlaces v_made v_companies v_accounts v_open v_amounts_2) → va_S A s.heap H locs → W p l e (headSpec ws_R_eliminate rm_R_eliminate).room s m ([.ref h0, .int p0, .int p1] : List Value).toArray below meth c H locs 0 0 (MQ below (QC_R_eliminate dC dI cI cL cZ A h0 a_amounts a_stepAmounts a_groupAmounts a_outsidersCredits a_openPlaces v_made v_companies v_accounts v_open v_amounts post) ([.ref h0, .int p0, .int p1] : List Value).toArray s 0 0 A) (F0 m 2 ls []) := by
    intro n
    induction n with
    | zero => intro l3_2 v_amounts_2 H locs ls hn; exact absurd hn (Nat.not_lt_zero _)
    | succ n ih2 =>
      intro l3_2 v_amounts_2 H locs ls hn2 hI hl hP hD hS
      have hw := hs2 l3_2 v_amounts_2 hI
      refine lv_iload_n hx hb d_R_eliminate_2 rfl (lv_at hl 3 rfl) ?_
      refine lv_aload_n hx hb d_R_eliminate_3 rfl (lv_at hl 0 rfl) ?_
      refine va_get (D := (dC, dI)) (ci := 1) (v := .int v_accounts) (C := R_R) (T := F_R) (N := 9) hx hb hts (kx_in in_R) hown hK hP 0 rfl rfl 2 (by decide) (hts _ (kx_w iw_58)) (fun _ h9 => h9) rfl d_R_eliminate_4 ?_
      refine lv_icmp_ge (tgt := 156) hx hb d_R_eliminate_7 rfl (fun hc => ?_) (fun hc => ?_)
      ·
        have hw := hw.1 hc
        exact W.vret hx hb hr (fun t ht hW => ⟨⟨v_amounts_2, rfl, hw, ⟨by rw [ht]; exact hP, hD⟩⟩, hS.F ht⟩) hS.2.2 d_R_eliminate_156
      ·
        have hw := hw.2 hc
        refine lv_iload_n hx hb d_R_eliminate_10 rfl (lv_at hl 1 rfl) ?_
        refine lv_iload_n hx hb d_R_eliminate_11 rfl (lv_at hl 2 rfl) ?_
        refine lv_iload_n hx hb d_R_eliminate_12 rfl (lv_at hl 3 rfl) ?_
        refine kx_calli (ws' := fun u13 => (WS_R_eliminate cI cL cZ h0 a_amounts a_stepAmounts a_groupAmounts a_outsidersCredits a_openPlaces v_made v_companies v_accounts v_open v_amounts_2)) (va_runSN (As := [.int p0, .int p1, .int l3_2]) (rest := []) ⟨hx, hb, hml, hown, hts⟩ (c_D_place l dC dI cI cL cZ  H.size p0 p1 l3_2 hw) ⟨(va_cnB 3 hts (kx_good iw_212) rfl rfl rfl hN (hts _ (kx_w iw_1)) (by decide +kernel) ⟨Nat.le_of_ble_eq_true rfl, Nat.le_of_ble_eq_true rfl⟩), (hts _ (kx_w iw_211)), trivial⟩ (kx_preS hN hK hP hD [] (by decide) rfl) rfl rfl hl.1 rfl (lv_room (Nat.le_of_ble_eq_true rfl)) d_R_eliminate_13 ⟨Nat.le_of_ble_eq_true rfl, Nat.le_of_ble_eq_true rfl⟩) hP hD hS hA [] [0, 1] rfl rfl (by decide) (by decide) [0, 1] (by decide) (fun _ => rfl) (fun r13 u13 H locs hw hP hD hS => ?_)
        have hP : va_P (dC, dI) classes (WS_R_eliminate cI cL cZ h0 a_amounts a_stepAmounts a_groupAmounts a_outsidersCredits a_openPlaces v_made v_companies v_accounts v_open v_amounts_2) H := hP
        have hD : va_D A (WS_R_eliminate cI cL cZ h0 a_amounts a_stepAmounts a_groupAmounts a_outsidersCredits a_openPlaces v_made v_companies v_accounts v_open v_amounts_2) := hD
        refine lv_istore (lv' := [(4, .int r13), (0, .ref h0), (1, .int p0), (2, .int p1), (3, .int l3_2)]) hx hb d_R_eliminate_16 hl (by decide) rfl (fun ls hl => ?_)
        refine lv_iload_n hx hb d_R_eliminate_18 rfl (lv_at hl 3 rfl) ?_
        refine lv_iload_n hx hb d_R_eliminate_19 rfl (lv_at hl 2 rfl) ?_
        refine lv_iload_n hx hb d_R_eliminate_20 rfl (lv_at hl 4 rfl) ?_
        refine kx_calli (ws' := fun u21 => (WS_R_eliminate cI cL cZ h0 a_amounts a_stepAmounts a_groupAmounts a_outsidersCredits a_openPlaces v_made v_companies v_accounts v_open v_amounts_2)) (va_runSN (As := [.int p1, .int p0, .int l3_2]) (rest := []) ⟨hx, hb, hml, hown, hts⟩ (c_D_place l dC dI cI cL cZ  H.size p1 p0 l3_2 hw) ⟨(va_cnB 3 hts (kx_good iw_212) rfl rfl rfl hN (hts _ (kx_w iw_1)) (by decide +kernel) ⟨Nat.le_of_ble_eq_true rfl, Nat.le_of_ble_eq_true rfl⟩), (hts _ (kx_w iw_211)), trivial⟩ (kx_preS hN hK hP hD [] (by decide) rfl) rfl rfl hl.1 rfl (lv_room (Nat.le_of_ble_eq_true rfl)) d_R_eliminate_21 ⟨Nat.le_of_ble_eq_true rfl, Nat.le_of_ble_eq_true rfl⟩) hP hD hS hA [] [0, 1] rfl rfl (by decide) (by decide) [0, 1] (by decide) (fun _ => rfl) (fun r21 u21 H locs hw hP hD hS => ?_)
        have hP : va_P (dC, dI) classes (WS_R_eliminate cI cL cZ h0 a_amounts a_stepAmounts a_groupAmounts a_outsidersCredits a_openPlaces v_made v_companies v_accounts v_open v_amounts_2) H := hP
        have hD : va_D A (WS_R_eliminate cI cL cZ h0 a_amounts a_stepAmounts a_groupAmounts a_outsidersCredits a_openPlaces v_made v_companies v_accounts v_open v_amounts_2) := hD
        refine lv_istore (lv' := [(5, .int r21), (4, .int r13), (0, .ref h0), (1, .int p0), (2, .int p1), (3, .int l3_2)]) hx hb d_R_eliminate_24 hl (by decide) rfl (fun ls hl => ?_)
        refine lv_aload_n hx hb d_R_eliminate_26 rfl (lv_at hl 2 rfl) ?_
        refine va_get (D := (dC, dI)) (ci := 1) (v := .ref a_amounts) (C := R_R) (T := F_R) (N := 9) hx hb hts (kx_in in_R) hown hK hP 0 rfl rfl 3 (by decide) (hts _ (kx_w iw_59)) (fun _ h9 => h9) rfl d_R_eliminate_27 ?_
        refine lv_iload hx hb d_R_eliminate_30 (lv_at hl 1 rfl) ?_
        obtain ⟨hi, hw⟩ := hw
        refine va_lald hx hb hK hP 1 1 rfl rfl hi d_R_eliminate_32 ?_
        refine va_mabs_long hx hb (by rw [hml]; exact hl.1.symm) hown (hts _ (kx_w iw_304)) (hts _ (kx_w iw_280)) (hts _ (kx_w iw_6)) (hts _ (kx_w iw_281)) (Nat.le_of_ble_eq_true rfl) (Nat.le_of_ble_eq_true rfl) (Nat.le_of_ble_eq_true rfl) (Nat.le_of_ble_eq_true rfl) d_R_eliminate_33 ?_
        refine lv_aload_n hx hb d_R_eliminate_36 rfl (lv_at hl 2 rfl) ?_
        refine va_get (D := (dC, dI)) (ci := 1) (v := .ref a_amounts) (C := R_R) (T := F_R) (N := 9) hx hb hts (kx_in in_R) hown hK hP 0 rfl rfl 3 (by decide) (hts _ (kx_w iw_59)) (fun _ h9 => h9) rfl d_R_eliminate_37 ?_
        refine lv_iload hx hb d_R_eliminate_40 (lv_at hl 0 rfl) ?_
        obtain ⟨hi, hw⟩ := hw
        refine va_lald hx hb hK hP 1 1 rfl rfl hi d_R_eliminate_42 ?_
        refine va_mabs_long hx hb (by rw [hml]; exact hl.1.symm) hown (hts _ (kx_w iw_304)) (hts _ (kx_w iw_280)) (hts _ (kx_w iw_6)) (hts _ (kx_w iw_281)) (Nat.le_of_ble_eq_true rfl) (Nat.le_of_ble_eq_true rfl) (Nat.le_of_ble_eq_true rfl) (Nat.le_of_ble_eq_true rfl) d_R_eliminate_43 ?_
        refine va_mmin_long hx hb (by rw [hml]; exact hl.1.symm) hown (hts _ (kx_w iw_305)) (hts _ (kx_w iw_306)) (hts _ (kx_w iw_6)) (hts _ (kx_w iw_307)) (Nat.le_of_ble_eq_true rfl) (Nat.le_of_ble_eq_true rfl) (Nat.le_of_ble_eq_true rfl) (Nat.le_of_ble_eq_true rfl) d_R_eliminate_46 ?_
        refine lv_topl (fun x49 e49 => ?_)
        have hw := hw x49 e49
        refine lv_lstore (lv' := [(6, .long x49), (5, .int r21), (4, .int r13), (0, .ref h0), (1, .int p0), (2, .int p1), (3, .int l3_2)]) hx hb d_R_eliminate_49 hl (by decide) rfl (fun ls hl => ?_)
        refine lv_aload_n hx hb d_R_eliminate_51 rfl (lv_at hl 3 rfl) ?_
        refine va_get (D := (dC, dI)) (ci := 1) (v := .ref a_amounts) (C := R_R) (T := F_R) (N := 9) hx hb hts (kx_in in_R) hown hK hP 0 rfl rfl 3 (by decide) (hts _ (kx_w iw_59)) (fun _ h9 => h9) rfl d_R_eliminate_52 ?_
        refine lv_iload hx hb d_R_eliminate_55 (lv_at hl 2 rfl) ?_
        obtain ⟨hi, hw⟩ := hw
        refine va_lald hx hb hK hP 1 1 rfl rfl hi d_R_eliminate_57 ?_
        refine lv_lconst (v := 0) hx hb d_R_eliminate_58 (by decide) ?_
        refine W.lcmp hx hb d_R_eliminate_59 ?_
        refine lv_if_le (tgt := 102) hx hb d_R_eliminate_60 rfl (fun hc => ?_) (fun hc => ?_)
        ·
          have hc := (lc_le _ _).mp hc
          have hw := hw.1 hc
          refine lv_aload_n hx hb d_R_eliminate_102 rfl (lv_at hl 3 rfl) ?_
          refine va_get (D := (dC, dI)) (ci := 1) (v := .ref a_amounts) (C := R_R) (T := F_R) (N := 9) hx hb hts (kx_in in_R) hown hK hP 0 rfl rfl 3 (by decide) (hts _ (kx_w iw_59)) (fun _ h9 => h9) rfl d_R_eliminate_103 ?_
          refine lv_iload hx hb d_R_eliminate_106 (lv_at hl 2 rfl) ?_
          obtain ⟨hi, hw⟩ := hw
          refine va_lald hx hb hK hP 1 1 rfl rfl hi d_R_eliminate_108 ?_
          refine lv_lconst (v := 0) hx hb d_R_eliminate_109 (by decide) ?_
          refine W.lcmp hx hb d_R_eliminate_110 ?_
          refine lv_if_ge (tgt := 150) hx hb d_R_eliminate_111 rfl (fun hc => ?_) (fun hc => ?_)
          ·
            have hc := (lc_ge _ _).mp hc
            have hw := hw.1 hc
            refine lv_iinc (v := (l3_2 + 1)) (lv' := [(3, .int (l3_2 + 1)), (6, .long x49), (5, .int r21), (4, .int r13), (0, .ref h0), (1, .int p0), (2, .int p1)]) hx hb d_R_eliminate_150 hl (k := 6) rfl rfl (by decide) rfl (fun ls hl => ?_)
            refine lv_goto (tgt := 2) hx hb d_R_eliminate_153 rfl ?_
            have hl := lv_sub hl [4, 5, 6, 0] rfl
            exact ih2 (l3_2 + 1) v_amounts_2 _ _ _ (Nat.lt_of_lt_of_le hw.2 (Nat.le_of_lt_succ hn2)) hw.1 hl hP hD hS
          ·
            have hc := mt (lc_ge _ _).mpr hc
            have hw := hw.2 hc
            refine lv_aload_n hx hb d_R_eliminate_114 rfl (lv_at hl 3 rfl) ?_
            refine va_get (D := (dC, dI)) (ci := 1) (v := .ref a_amounts) (C := R_R) (T := F_R) (N := 9) hx hb hts (kx_in in_R) hown hK hP 0 rfl rfl 3 (by decide) (hts _ (kx_w iw_59)) (fun _ h9 => h9) rfl d_R_eliminate_115 ?_
            refine lv_iload hx hb d_R_eliminate_118 (lv_at hl 1 rfl) ?_
            obtain ⟨hi, hw⟩ := hw
            refine va_lald hx hb hK hP 1 1 rfl rfl hi d_R_eliminate_120 ?_
            refine lv_lconst (v := 0) hx hb d_R_eliminate_121 (by decide) ?_
            refine W.lcmp hx hb d_R_eliminate_122 ?_
            refine lv_if_le (tgt := 150) hx hb d_R_eliminate_123 rfl (fun hc => ?_) (fun hc => ?_)
            ·
              have hc := (lc_le _ _).mp hc
              have hw := hw.1 hc
              refine lv_iinc (v := (l3_2 + 1)) (lv' := [(3, .int (l3_2 + 1)), (6, .long x49), (5, .int r21), (4, .int r13), (0, .ref h0), (1, .int p0), (2, .int p1)]) hx hb d_R_eliminate_150 hl (k := 6) rfl rfl (by decide) rfl (fun ls hl => ?_)
              refine lv_goto (tgt := 2) hx hb d_R_eliminate_153 rfl ?_
              have hl := lv_sub hl [4, 5, 6, 0] rfl
              exact ih2 (l3_2 + 1) v_amounts_2 _ _ _ (Nat.lt_of_lt_of_le hw.2 (Nat.le_of_lt_succ hn2)) hw.1 hl hP hD hS
            ·
              have hc := mt (lc_le _ _).mpr hc
              have hw := hw.2 hc
              refine lv_aload_n hx hb d_R_eliminate_126 rfl (lv_at hl 3 rfl) ?_
              refine va_get (D := (dC, dI)) (ci := 1) (v := .ref a_amounts) (C := R_R) (T := F_R) (N := 9) hx hb hts (kx_in in_R) hown hK hP 0 rfl rfl 3 (by decide) (hts _ (kx_w iw_59)) (fun _ h9 => h9) rfl d_R_eliminate_127 ?_
              refine lv_iload hx hb d_R_eliminate_130 (lv_at hl 2 rfl) ?_
              refine lv_dup2_11 hx hb d_R_eliminate_132 rfl rfl ?_
              obtain ⟨hi, hw⟩ := hw
              refine va_lald hx hb hK hP 1 1 rfl rfl hi d_R_eliminate_133 ?_
              refine lv_lload hx hb d_R_eliminate_134 (lv_at hl 0 rfl) ?_
              refine lv_ladd hx hb d_R_eliminate_136 ?_
              obtain ⟨hi, hw⟩ := hw
              refine va_last hx hb hK hP hD hS 1 1 rfl rfl hi d_R_eliminate_137 (fun H locs hP hD hS => ?_)
              have hP : va_P (dC, dI) classes (WS_R_eliminate cI cL cZ h0 a_amounts a_stepAmounts a_groupAmounts a_outsidersCredits a_openPlaces v_made v_companies v_accounts v_open (vp_updL v_amounts_2 r13.toNatClampNeg ((v_amounts_2 r13.toNatClampNeg) + x49))) H := hP
              have hD : va_D A (WS_R_eliminate cI cL cZ h0 a_amounts a_stepAmounts a_groupAmounts a_outsidersCredits a_openPlaces v_made v_companies v_accounts v_open (vp_updL v_amounts_2 r13.toNatClampNeg ((v_amounts_2 r13.toNatClampNeg) + x49))) := hD
              refine lv_aload_n hx hb d_R_eliminate_138 rfl (lv_at hl 3 rfl) ?_
              refine va_get (D := (dC, dI)) (ci := 1) (v := .ref a_amounts) (C := R_R) (T := F_R) (N := 9) hx hb hts (kx_in in_R) hown hK hP 0 rfl rfl 3 (by decide) (hts _ (kx_w iw_59)) (fun _ h9 => h9) rfl d_R_eliminate_139 ?_
              refine lv_iload hx hb d_R_eliminate_142 (lv_at hl 1 rfl) ?_
              refine lv_dup2_11 hx hb d_R_eliminate_144 rfl rfl ?_
              obtain ⟨hi, hw⟩ := hw
              refine va_lald hx hb hK hP 1 1 rfl rfl hi d_R_eliminate_145 ?_
              refine lv_lload hx hb d_R_eliminate_146 (lv_at hl 0 rfl) ?_
              refine lv_lsub hx hb d_R_eliminate_148 ?_
              obtain ⟨hi, hw⟩ := hw
              refine va_last hx hb hK hP hD hS 1 1 rfl rfl hi d_R_eliminate_149 (fun H locs hP hD hS => ?_)
              have hP : va_P (dC, dI) classes (WS_R_eliminate cI cL cZ h0 a_amounts a_stepAmounts a_groupAmounts a_outsidersCredits a_openPlaces v_made v_companies v_accounts v_open (vp_updL (vp_updL v_amounts_2 r13.toNatClampNeg ((v_amounts_2 r13.toNatClampNeg) + x49)) r21.toNatClampNeg (((vp_updL v_amounts_2 r13.toNatClampNeg ((v_amounts_2 r13.toNatClampNeg) + x49)) r21.toNatClampNeg) - x49))) H := hP
              have hD : va_D A (WS_R_eliminate cI cL cZ h0 a_amounts a_stepAmounts a_groupAmounts a_outsidersCredits a_openPlaces v_made v_companies v_accounts v_open (vp_updL (vp_updL v_amounts_2 r13.toNatClampNeg ((v_amounts_2 r13.toNatClampNeg) + x49)) r21.toNatClampNeg (((vp_updL v_amounts_2 r13.toNatClampNeg ((v_amounts_2 r13.toNatClampNeg) + x49)) r21.toNatClampNeg) - x49))) := hD
              refine lv_iinc (v := (l3_2 + 1)) (lv' := [(3, .int (l3_2 + 1)), (6, .long x49), (5, .int r21), (4, .int r13), (0, .ref h0), (1, .int p0), (2, .int p1)]) hx hb d_R_eliminate_150 hl (k := 6) rfl rfl (by decide) rfl (fun ls hl => ?_)
              refine lv_goto (tgt := 2) hx hb d_R_eliminate_153 rfl ?_
              have hl := lv_sub hl [4, 5, 6, 0] rfl
              exact ih2 (l3_2 + 1) (vp_updL (vp_updL v_amounts_2 r13.toNatClampNeg ((v_amounts_2 r13.toNatClampNeg) + x49)) r21.toNatClampNeg (((vp_updL v_amounts_2 r13.toNatClampNeg ((v_amounts_2 r13.toNatClampNeg) + x49)) r21.toNatClampNeg) - x49)) _ _ _ (Nat.lt_of_lt_of_le hw.2 (Nat.le_of_lt_succ hn2)) hw.1 hl hP hD hS
        ·
          have hc := mt (lc_le _ _).mpr hc
          have hw := hw.2 hc
          refine lv_aload_n hx hb d_R_eliminate_63 rfl (lv_at hl 3 rfl) ?_
          refine va_get (D := (dC, dI)) (ci := 1) (v := .ref a_amounts) (C := R_R) (T := F_R) (N := 9) hx hb hts (kx_in in_R) hown hK hP 0 rfl rfl 3 (by decide) (hts _ (kx_w iw_59)) (fun _ h9 => h9) rfl d_R_eliminate_64 ?_
          refine lv_iload hx hb d_R_eliminate_67 (lv_at hl 1 rfl) ?_
          obtain ⟨hi, hw⟩ := hw
          refine va_lald hx hb hK hP 1 1 rfl rfl hi d_R_eliminate_69 ?_
          refine lv_lconst (v := 0) hx hb d_R_eliminate_70 (by decide) ?_
          refine W.lcmp hx hb d_R_eliminate_71 ?_
          refine lv_if_ge (tgt := 102) hx hb d_R_eliminate_72 rfl (fun hc => ?_) (fun hc => ?_)
          ·
            have hc := (lc_ge _ _).mp hc
            have hw := hw.1 hc
            refine lv_aload_n hx hb d_R_eliminate_102 rfl (lv_at hl 3 rfl) ?_
            refine va_get (D := (dC, dI)) (ci := 1) (v := .ref a_amounts) (C := R_R) (T := F_R) (N := 9) hx hb hts (kx_in in_R) hown hK hP 0 rfl rfl 3 (by decide) (hts _ (kx_w iw_59)) (fun _ h9 => h9) rfl d_R_eliminate_103 ?_
            refine lv_iload hx hb d_R_eliminate_106 (lv_at hl 2 rfl) ?_
            obtain ⟨hi, hw⟩ := hw
            refine va_lald hx hb hK hP 1 1 rfl rfl hi d_R_eliminate_108 ?_
            refine lv_lconst (v := 0) hx hb d_R_eliminate_109 (by decide) ?_
            refine W.lcmp hx hb d_R_eliminate_110 ?_
            refine lv_if_ge (tgt := 150) hx hb d_R_eliminate_111 rfl (fun hc => ?_) (fun hc => ?_)
            ·
              have hc := (lc_ge _ _).mp hc
              have hw := hw.1 hc
              refine lv_iinc (v := (l3_2 + 1)) (lv' := [(3, .int (l3_2 + 1)), (6, .long x49), (5, .int r21), (4, .int r13), (0, .ref h0), (1, .int p0), (2, .int p1)]) hx hb d_R_eliminate_150 hl (k := 6) rfl rfl (by decide) rfl (fun ls hl => ?_)
              refine lv_goto (tgt := 2) hx hb d_R_eliminate_153 rfl ?_
              have hl := lv_sub hl [4, 5, 6, 0] rfl
              exact ih2 (l3_2 + 1) v_amounts_2 _ _ _ (Nat.lt_of_lt_of_le hw.2 (Nat.le_of_lt_succ hn2)) hw.1 hl hP hD hS
            ·
              have hc := mt (lc_ge _ _).mpr hc
              have hw := hw.2 hc
              refine lv_aload_n hx hb d_R_eliminate_114 rfl (lv_at hl 3 rfl) ?_
              refine va_get (D := (dC, dI)) (ci := 1) (v := .ref a_amounts) (C := R_R) (T := F_R) (N := 9) hx hb hts (kx_in in_R) hown hK hP 0 rfl rfl 3 (by decide) (hts _ (kx_w iw_59)) (fun _ h9 => h9) rfl d_R_eliminate_115 ?_
              refine lv_iload hx hb d_R_eliminate_118 (lv_at hl 1 rfl) ?_
              obtain ⟨hi, hw⟩ := hw
              refine va_lald hx hb hK hP 1 1 rfl rfl hi d_R_eliminate_120 ?_
              refine lv_lconst (v := 0) hx hb d_R_eliminate_121 (by decide) ?_
              refine W.lcmp hx hb d_R_eliminate_122 ?_
              refine lv_if_le (tgt := 150) hx hb d_R_eliminate_123 rfl (fun hc => ?_) (fun hc => ?_)
              ·
                have hc := (lc_le _ _).mp hc
                have hw := hw.1 hc
                refine lv_iinc (v := (l3_2 + 1)) (lv' := [(3, .int (l3_2 + 1)), (6, .long x49), (5, .int r21), (4, .int r13), (0, .ref h0), (1, .int p0), (2, .int p1)]) hx hb d_R_eliminate_150 hl (k := 6) rfl rfl (by decide) rfl (fun ls hl => ?_)
                refine lv_goto (tgt := 2) hx hb d_R_eliminate_153 rfl ?_
                have hl := lv_sub hl [4, 5, 6, 0] rfl
                exact ih2 (l3_2 + 1) v_amounts_2 _ _ _ (Nat.lt_of_lt_of_le hw.2 (Nat.le_of_lt_succ hn2)) hw.1 hl hP hD hS
              ·
                have hc := mt (lc_le _ _).mpr hc
                have hw := hw.2 hc
                refine lv_aload_n hx hb d_R_eliminate_126 rfl (lv_at hl 3 rfl) ?_
                refine va_get (D := (dC, dI)) (ci := 1) (v := .ref a_amounts) (C := R_R) (T := F_R) (N := 9) hx hb hts (kx_in in_R) hown hK hP 0 rfl rfl 3 (by decide) (hts _ (kx_w iw_59)) (fun _ h9 => h9) rfl d_R_eliminate_127 ?_
                refine lv_iload hx hb d_R_eliminate_130 (lv_at hl 2 rfl) ?_
                refine lv_dup2_11 hx hb d_R_eliminate_132 rfl rfl ?_
                obtain ⟨hi, hw⟩ := hw
                refine va_lald hx hb hK hP 1 1 rfl rfl hi d_R_eliminate_133 ?_
                refine lv_lload hx hb d_R_eliminate_134 (lv_at hl 0 rfl) ?_
                refine lv_ladd hx hb d_R_eliminate_136 ?_
                obtain ⟨hi, hw⟩ := hw
                refine va_last hx hb hK hP hD hS 1 1 rfl rfl hi d_R_eliminate_137 (fun H locs hP hD hS => ?_)
                have hP : va_P (dC, dI) classes (WS_R_eliminate cI cL cZ h0 a_amounts a_stepAmounts a_groupAmounts a_outsidersCredits a_openPlaces v_made v_companies v_accounts v_open (vp_updL v_amounts_2 r13.toNatClampNeg ((v_amounts_2 r13.toNatClampNeg) + x49))) H := hP
                have hD : va_D A (WS_R_eliminate cI cL cZ h0 a_amounts a_stepAmounts a_groupAmounts a_outsidersCredits a_openPlaces v_made v_companies v_accounts v_open (vp_updL v_amounts_2 r13.toNatClampNeg ((v_amounts_2 r13.toNatClampNeg) + x49))) := hD
                refine lv_aload_n hx hb d_R_eliminate_138 rfl (lv_at hl 3 rfl) ?_
                refine va_get (D := (dC, dI)) (ci := 1) (v := .ref a_amounts) (C := R_R) (T := F_R) (N := 9) hx hb hts (kx_in in_R) hown hK hP 0 rfl rfl 3 (by decide) (hts _ (kx_w iw_59)) (fun _ h9 => h9) rfl d_R_eliminate_139 ?_
                refine lv_iload hx hb d_R_eliminate_142 (lv_at hl 1 rfl) ?_
                refine lv_dup2_11 hx hb d_R_eliminate_144 rfl rfl ?_
                obtain ⟨hi, hw⟩ := hw
                refine va_lald hx hb hK hP 1 1 rfl rfl hi d_R_eliminate_145 ?_
                refine lv_lload hx hb d_R_eliminate_146 (lv_at hl 0 rfl) ?_
                refine lv_lsub hx hb d_R_eliminate_148 ?_
                obtain ⟨hi, hw⟩ := hw
                refine va_last hx hb hK hP hD hS 1 1 rfl rfl hi d_R_eliminate_149 (fun H locs hP hD hS => ?_)
                have hP : va_P (dC, dI) classes (WS_R_eliminate cI cL cZ h0 a_amounts a_stepAmounts a_groupAmounts a_outsidersCredits a_openPlaces v_made v_companies v_accounts v_open (vp_updL (vp_updL v_amounts_2 r13.toNatClampNeg ((v_amounts_2 r13.toNatClampNeg) + x49)) r21.toNatClampNeg (((vp_updL v_amounts_2 r13.toNatClampNeg ((v_amounts_2 r13.toNatClampNeg) + x49)) r21.toNatClampNeg) - x49))) H := hP
                have hD : va_D A (WS_R_eliminate cI cL cZ h0 a_amounts a_stepAmounts a_groupAmounts a_outsidersCredits a_openPlaces v_made v_companies v_accounts v_open (vp_updL (vp_updL v_amounts_2 r13.toNatClampNeg ((v_amounts_2 r13.toNatClampNeg) + x49)) r21.toNatClampNeg (((vp_updL v_amounts_2 r13.toNatClampNeg ((v_amounts_2 r13.toNatClampNeg) + x49)) r21.toNatClampNeg) - x49))) := hD
                refine lv_iinc (v := (l3_2 + 1)) (lv' := [(3, .int (l3_2 + 1)), (6, .long x49), (5, .int r21), (4, .int r13), (0, .ref h0), (1, .int p0), (2, .int p1)]) hx hb d_R_eliminate_150 hl (k := 6) rfl rfl (by decide) rfl (fun ls hl => ?_)
                refine lv_goto (tgt := 2) hx hb d_R_eliminate_153 rfl ?_
                have hl := lv_sub hl [4, 5, 6, 0] rfl
                exact ih2 (l3_2 + 1) (vp_updL (vp_updL v_amounts_2 r13.toNatClampNeg ((v_amounts_2 r13.toNatClampNeg) + x49)) r21.toNatClampNeg (((vp_updL v_amounts_2 r13.toNatClampNeg ((v_amounts_2 r13.toNatClampNeg) + x49)) r21.toNatClampNeg) - x49)) _ _ _ (Nat.lt_of_lt_of_le hw.2 (Nat.le_of_lt_succ hn2)) hw.1 hl hP hD hS
          ·
            have hc := mt (lc_ge _ _).mpr hc
            have hw := hw.2 hc
            refine lv_aload_n hx hb d_R_eliminate_75 rfl (lv_at hl 3 rfl) ?_
            refine va_get (D := (dC, dI)) (ci := 1) (v := .ref a_amounts) (C := R_R) (T := F_R) (N := 9) hx hb hts (kx_in in_R) hown hK hP 0 rfl rfl 3 (by decide) (hts _ (kx_w iw_59)) (fun _ h9 => h9) rfl d_R_eliminate_76 ?_
            refine lv_iload hx hb d_R_eliminate_79 (lv_at hl 2 rfl) ?_
            refine lv_dup2_11 hx hb d_R_eliminate_81 rfl rfl ?_
            obtain ⟨hi, hw⟩ := hw
            refine va_lald hx hb hK hP 1 1 rfl rfl hi d_R_eliminate_82 ?_
            refine lv_lload hx hb d_R_eliminate_83 (lv_at hl 0 rfl) ?_
            refine lv_lsub hx hb d_R_eliminate_85 ?_
            obtain ⟨hi, hw⟩ := hw
            refine va_last hx hb hK hP hD hS 1 1 rfl rfl hi d_R_eliminate_86 (fun H locs hP hD hS => ?_)
            have hP : va_P (dC, dI) classes (WS_R_eliminate cI cL cZ h0 a_amounts a_stepAmounts a_groupAmounts a_outsidersCredits a_openPlaces v_made v_companies v_accounts v_open (vp_updL v_amounts_2 r13.toNatClampNeg ((v_amounts_2 r13.toNatClampNeg) - x49))) H := hP
            have hD : va_D A (WS_R_eliminate cI cL cZ h0 a_amounts a_stepAmounts a_groupAmounts a_outsidersCredits a_openPlaces v_made v_companies v_accounts v_open (vp_updL v_amounts_2 r13.toNatClampNeg ((v_amounts_2 r13.toNatClampNeg) - x49))) := hD
            refine lv_aload_n hx hb d_R_eliminate_87 rfl (lv_at hl 3 rfl) ?_
            refine va_get (D := (dC, dI)) (ci := 1) (v := .ref a_amounts) (C := R_R) (T := F_R) (N := 9) hx hb hts (kx_in in_R) hown hK hP 0 rfl rfl 3 (by decide) (hts _ (kx_w iw_59)) (fun _ h9 => h9) rfl d_R_eliminate_88 ?_
            refine lv_iload hx hb d_R_eliminate_91 (lv_at hl 1 rfl) ?_
            refine lv_dup2_11 hx hb d_R_eliminate_93 rfl rfl ?_
            obtain ⟨hi, hw⟩ := hw
            refine va_lald hx hb hK hP 1 1 rfl rfl hi d_R_eliminate_94 ?_
            refine lv_lload hx hb d_R_eliminate_95 (lv_at hl 0 rfl) ?_
            refine lv_ladd hx hb d_R_eliminate_97 ?_
            obtain ⟨hi, hw⟩ := hw
            refine va_last hx hb hK hP hD hS 1 1 rfl rfl hi d_R_eliminate_98 (fun H locs hP hD hS => ?_)
            have hP : va_P (dC, dI) classes (WS_R_eliminate cI cL cZ h0 a_amounts a_stepAmounts a_groupAmounts a_outsidersCredits a_openPlaces v_made v_companies v_accounts v_open (vp_updL (vp_updL v_amounts_2 r13.toNatClampNeg ((v_amounts_2 r13.toNatClampNeg) - x49)) r21.toNatClampNeg (((vp_updL v_amounts_2 r13.toNatClampNeg ((v_amounts_2 r13.toNatClampNeg) - x49)) r21.toNatClampNeg) + x49))) H := hP
            have hD : va_D A (WS_R_eliminate cI cL cZ h0 a_amounts a_stepAmounts a_groupAmounts a_outsidersCredits a_openPlaces v_made v_companies v_accounts v_open (vp_updL (vp_updL v_amounts_2 r13.toNatClampNeg ((v_amounts_2 r13.toNatClampNeg) - x49)) r21.toNatClampNeg (((vp_updL v_amounts_2 r13.toNatClampNeg ((v_amounts_2 r13.toNatClampNeg) - x49)) r21.toNatClampNeg) + x49))) := hD
            refine lv_goto (tgt := 150) hx hb d_R_eliminate_99 rfl ?_
            refine lv_iinc (v := (l3_2 + 1)) (lv' := [(3, .int (l3_2 + 1)), (6, .long x49), (5, .int r21), (4, .int r13), (0, .ref h0), (1, .int p0), (2, .int p1)]) hx hb d_R_eliminate_150 hl (k := 6) rfl rfl (by decide) rfl (fun ls hl => ?_)
            refine lv_goto (tgt := 2) hx hb d_R_eliminate_153 rfl ?_
            have hl := lv_sub hl [4, 5, 6, 0] rfl
            exact ih2 (l3_2 + 1) (vp_updL (vp_updL v_amounts_2 r13.toNatClampNeg ((v_amounts_2 r13.toNatClampNeg) - x49)) r21.toNatClampNeg (((vp_updL v_amounts_2 r13.toNatClampNeg ((v_amounts_2 r13.toNatClampNeg) - x49)) r21.toNatClampNeg) + x49)) _ _ _ (Nat.lt_of_lt_of_le hw.2 (Nat.le_of_lt_succ hn2)) hw.1 hl hP hD hS
  exact L2 _ 0 v_amounts _ _ _ (Nat.lt_succ_self _) hi2 hl hP hD hS
/-! ConsolidationDesk$Report.listOpen(II)V -/
abbrev y_R_listOpen : MethodName := ⟨"ConsolidationDesk$Report", "listOpen", "(II)V"⟩
theorem d_R_listOpen_0 : decode prog_3_method_7_code 0 = .ok (.iconst 0, 1) := by decide +kernel
theorem d_R_listOpen_1 : decode prog_3_method_7_code 1 = .ok (.istore_n 3, 1) := by decide +kernel
theorem d_R_listOpen_2 : decode prog_3_method_7_code 2 = .ok (.iload_n 3, 1) := by decide +kernel
theorem d_R_listOpen_3 : decode prog_3_method_7_code 3 = .ok (.aload_n 0, 1) := by decide +kernel
theorem d_R_listOpen_4 : decode prog_3_method_7_code 4 = .ok (.getfield 19, 3) := by decide +kernel
theorem d_R_listOpen_7 : decode prog_3_method_7_code 7 = .ok (.if_icmp .ge 62, 3) := by decide +kernel
theorem d_R_listOpen_10 : decode prog_3_method_7_code 10 = .ok (.iload_n 1, 1) := by decide +kernel
theorem d_R_listOpen_11 : decode prog_3_method_7_code 11 = .ok (.iload_n 2, 1) := by decide +kernel
theorem d_R_listOpen_12 : decode prog_3_method_7_code 12 = .ok (.iload_n 3, 1) := by decide +kernel
theorem d_R_listOpen_13 : decode prog_3_method_7_code 13 = .ok (.invokestatic 48, 3) := by decide +kernel
theorem d_R_listOpen_16 : decode prog_3_method_7_code 16 = .ok (.istore 4, 2) := by decide +kernel
theorem d_R_listOpen_18 : decode prog_3_method_7_code 18 = .ok (.aload_n 0, 1) := by decide +kernel
theorem d_R_listOpen_19 : decode prog_3_method_7_code 19 = .ok (.getfield 22, 3) := by decide +kernel
theorem d_R_listOpen_22 : decode prog_3_method_7_code 22 = .ok (.iload 4, 2) := by decide +kernel
theorem d_R_listOpen_24 : decode prog_3_method_7_code 24 = .ok (.laload, 1) := by decide +kernel
theorem d_R_listOpen_25 : decode prog_3_method_7_code 25 = .ok (.lconst 0, 1) := by decide +kernel
theorem d_R_listOpen_26 : decode prog_3_method_7_code 26 = .ok (.lcmp, 1) := by decide +kernel
theorem d_R_listOpen_27 : decode prog_3_method_7_code 27 = .ok (.ifCond .eq 36, 3) := by decide +kernel
theorem d_R_listOpen_30 : decode prog_3_method_7_code 30 = .ok (.aload_n 0, 1) := by decide +kernel
theorem d_R_listOpen_31 : decode prog_3_method_7_code 31 = .ok (.getfield 39, 3) := by decide +kernel
theorem d_R_listOpen_34 : decode prog_3_method_7_code 34 = .ok (.aload_n 0, 1) := by decide +kernel
theorem d_R_listOpen_35 : decode prog_3_method_7_code 35 = .ok (.getfield 35, 3) := by decide +kernel
theorem d_R_listOpen_38 : decode prog_3_method_7_code 38 = .ok (.arraylength, 1) := by decide +kernel
theorem d_R_listOpen_39 : decode prog_3_method_7_code 39 = .ok (.if_icmp .ge 24, 3) := by decide +kernel
theorem d_R_listOpen_42 : decode prog_3_method_7_code 42 = .ok (.aload_n 0, 1) := by decide +kernel
theorem d_R_listOpen_43 : decode prog_3_method_7_code 43 = .ok (.getfield 35, 3) := by decide +kernel
theorem d_R_listOpen_46 : decode prog_3_method_7_code 46 = .ok (.aload_n 0, 1) := by decide +kernel
theorem d_R_listOpen_47 : decode prog_3_method_7_code 47 = .ok (.getfield 39, 3) := by decide +kernel
theorem d_R_listOpen_50 : decode prog_3_method_7_code 50 = .ok (.iload 4, 2) := by decide +kernel
theorem d_R_listOpen_52 : decode prog_3_method_7_code 52 = .ok (.iastore, 1) := by decide +kernel
theorem d_R_listOpen_53 : decode prog_3_method_7_code 53 = .ok (.aload_n 0, 1) := by decide +kernel
theorem d_R_listOpen_54 : decode prog_3_method_7_code 54 = .ok (.dup, 1) := by decide +kernel
theorem d_R_listOpen_55 : decode prog_3_method_7_code 55 = .ok (.getfield 39, 3) := by decide +kernel
theorem d_R_listOpen_58 : decode prog_3_method_7_code 58 = .ok (.iconst 1, 1) := by decide +kernel
theorem d_R_listOpen_59 : decode prog_3_method_7_code 59 = .ok (.iadd, 1) := by decide +kernel
theorem d_R_listOpen_60 : decode prog_3_method_7_code 60 = .ok (.putfield 39, 3) := by decide +kernel
theorem d_R_listOpen_63 : decode prog_3_method_7_code 63 = .ok (.iinc 3 1, 3) := by decide +kernel
theorem d_R_listOpen_66 : decode prog_3_method_7_code 66 = .ok (.goto (-64), 3) := by decide +kernel
theorem d_R_listOpen_69 : decode prog_3_method_7_code 69 = .ok (.return_, 1) := by decide +kernel
abbrev WS_R_listOpen (cI cL cZ : ClassId)  (h0 a_amounts a_stepAmounts a_groupAmounts a_outsidersCredits a_openPlaces : Nat) (v_made : Int32) (v_companies : Int32) (v_accounts : Int32) (v_open : Int32) (v_amounts : (Nat → Int64)) (v_openPlaces : (Nat → Int32)) : va_W := [(h0, .inr (1, [.int v_made, .int v_companies, .int v_accounts, .ref a_amounts, .ref a_stepAmounts, .ref a_groupAmounts, .ref a_outsidersCredits, .ref a_openPlaces, .int v_open])), (a_amounts, .inl (cL, 1872, .inr (.inl v_amounts))), (a_openPlaces, .inl (cI, 1584, .inl v_openPlaces))]
def wp_R_listOpen  (p0 : Int32) (p1 : Int32) (v_accounts : Int32) (v_open : Int32) (v_amounts : (Nat → Int64)) (v_openPlaces : (Nat → Int32)) (post : (Int32 × (Nat → Int32)) → Prop) : Prop := (∃ (I2 : Int32 → Int32 → (Nat → Int32) → Prop) (μ2 : Int32 → Int32 → (Nat → Int32) → Nat), I2 0 v_open v_openPlaces ∧ ∀ (l3_2 : Int32) (v_open_2 : Int32) (v_openPlaces_2 : (Nat → Int32)), I2 l3_2 v_open_2 v_openPlaces_2 → ((v_accounts ≤ l3_2 → post (v_open_2, v_openPlaces_2)) ∧ (¬ v_accounts ≤ l3_2 → (wp_D_place p0 p1 l3_2 (fun (r13 : Int32) (u13 : Unit) => (vp_in r13 1872 ∧ (((v_amounts r13.toNatClampNeg) = 0 → I2 (l3_2 + 1) v_open_2 v_openPlaces_2 ∧ μ2 (l3_2 + 1) v_open_2 v_openPlaces_2 < μ2 l3_2 v_open_2 v_openPlaces_2) ∧ (¬ (v_amounts r13.toNatClampNeg) = 0 → ((1584 ≤ v_open_2 → I2 (l3_2 + 1) v_open_2 v_openPlaces_2 ∧ μ2 (l3_2 + 1) v_open_2 v_openPlaces_2 < μ2 l3_2 v_open_2 v_openPlaces_2) ∧ (¬ 1584 ≤ v_open_2 → (vp_in v_open_2 1584 ∧ I2 (l3_2 + 1) (v_open_2 + 1) (upd v_openPlaces_2 v_open_2.toNatClampNeg r13) ∧ μ2 (l3_2 + 1) (v_open_2 + 1) (upd v_openPlaces_2 v_open_2.toNatClampNeg r13) < μ2 l3_2 v_open_2 v_openPlaces_2)))))))))))
abbrev ws_R_listOpen : List Cond := .code y_R_listOpen prog_3_method_7_code 5 none :: kxW
abbrev rm_R_listOpen : Room := { frames := 1, cells := 0, slots := 0, locals := 22 }
abbrev QC_R_listOpen (dC : Nat → ClassId) (dI : Nat → Nat → Nat) (cI cL cZ : ClassId) (A : Nat → Prop)  (h0 a_amounts a_stepAmounts a_groupAmounts a_outsidersCredits a_openPlaces : Nat) (v_made : Int32) (v_companies : Int32) (v_accounts : Int32) (v_open : Int32) (v_amounts : (Nat → Int64)) (v_openPlaces : (Nat → Int32)) (post : (Int32 × (Nat → Int32)) → Prop) : Array Value → State → Outcome → State → Prop := va_Qv post (fun (u : Int32 × (Nat → Int32)) t => kx_B (dC, dI) classes A (WS_R_listOpen cI cL cZ h0 a_amounts a_stepAmounts a_groupAmounts a_outsidersCredits a_openPlaces v_made v_companies v_accounts u.1 v_amounts u.2) t) A
set_option maxHeartbeats 4000000 in
set_option maxRecDepth 100000 in
theorem c_R_listOpen (l : Launch) (dC : Nat → ClassId) (dI : Nat → Nat → Nat) (cI cL cZ : ClassId)  (h0 a_amounts a_stepAmounts a_groupAmounts a_outsidersCredits a_openPlaces : Nat) (v_made : Int32) (v_companies : Int32) (v_accounts : Int32) (v_open : Int32) (v_amounts : (Nat → Int64)) (v_openPlaces : (Nat → Int32)) (sz : Nat) (p0 : Int32) (p1 : Int32) {post : (Int32 × (Nat → Int32)) → Prop} (hw : wp_R_listOpen p0 p1 v_accounts v_open v_amounts v_openPlaces post) : Met l y_R_listOpen ws_R_listOpen rm_R_listOpen (kx_Pc (dC, dI) classes (kx_T cI cL cZ) (WS_R_listOpen cI cL cZ h0 a_amounts a_stepAmounts a_groupAmounts a_outsidersCredits a_openPlaces v_made v_companies v_accounts v_open v_amounts v_openPlaces) sz [.ref h0, .int p0, .int p1]) (QC_R_listOpen dC dI cI cL cZ (va_A (WS_R_listOpen cI cL cZ h0 a_amounts a_stepAmounts a_groupAmounts a_outsidersCredits a_openPlaces v_made v_companies v_accounts v_open v_amounts v_openPlaces) sz) h0 a_amounts a_stepAmounts a_groupAmounts a_outsidersCredits a_openPlaces v_made v_companies v_accounts v_open v_amounts v_openPlaces post) 0 0 (va_A (WS_R_listOpen cI cL cZ h0 a_amounts a_stepAmounts a_groupAmounts a_outsidersCredits a_openPlaces v_made v_companies v_accounts v_open v_amounts v_openPlaces) sz) := by
  refine Met.ofW (cc := prog_3_method_7_code) (maxL := 5) (ret := none) (by decide) rfl ?_
  intro p e s m args below meth c s₁ B hml hv
  obtain ⟨rfl, hsz, hP, hK, hD0, hN⟩ := hv
  have hx := B.exec
  have hb := B.bytes
  have hr := B.returns
  have hts := atoms_spec (ws := ws_R_listOpen) B.pre
  have hown : s.vm.findClass R_R = some m.cls := findClass_of_methodNamed B.named
  have hlocks := B.notSynchronized
  subst hsz
  have hD := hD0.self (sz := s.heap.size)
  generalize hAe : va_A (WS_R_listOpen cI cL cZ h0 a_amounts a_stepAmounts a_groupAmounts a_outsidersCredits a_openPlaces v_made v_companies v_accounts v_open v_amounts v_openPlaces) s.heap.size = A at hD ⊢
  have hA : ∀ q : Nat, s.heap.size ≤ q → A q := fun q h => by rw [← hAe]; exact Or.inr h
  have hS : va_S A s.heap s.heap [] := va_S.rf
  have hP : va_P (dC, dI) classes (WS_R_listOpen cI cL cZ h0 a_amounts a_stepAmounts a_groupAmounts a_outsidersCredits a_openPlaces v_made v_companies v_accounts v_open v_amounts v_openPlaces) s.heap := hP
  have hl := lv_entry ([.ref h0, .int p0, .int p1]) (n := 5) (Nat.le_of_ble_eq_true rfl)
  rw [lg_entry_eq]
  generalize (lg_sl ([.ref h0, .int p0, .int p1]) ++ List.replicate (5 - (lg_sl ([.ref h0, .int p0, .int p1])).length) Slot.unset).toArray = ls at hl ⊢
  have hl : lv_has ls 5 [(0, .ref h0), (1, .int p0), (2, .int p1)] := hl
  unfold wp_R_listOpen at hw
  refine (show ∀ (H : Heap) (locs : List Loc), va_P (dC, dI) classes (WS_R_listOpen cI cL cZ h0 a_amounts a_stepAmounts a_groupAmounts a_outsidersCredits a_openPlaces v_made v_companies v_accounts v_open v_amounts v_openPlaces) H → va_S A s.heap H locs → W p l e (headSpec ws_R_listOpen rm_R_listOpen).room s m ([.ref h0, .int p0, .int p1] : List Value).toArray below meth c H locs 0 0 (MQ below (QC_R_listOpen dC dI cI cL cZ A h0 a_amounts a_stepAmounts a_groupAmounts a_outsidersCredits a_openPlaces v_made v_companies v_accounts v_open v_amounts v_openPlaces post) ([.ref h0, .int p0, .int p1] : List Value).toArray s 0 0 A) (F0 m 0 ls []) from ?_) _ _ hP hS
  intro H locs hP hS
  refine lv_iconst (v := 0) hx hb d_R_listOpen_0 (by decide) ?_
  refine lv_istore_n (lv' := [(3, .int 0), (0, .ref h0), (1, .int p0), (2, .int p1)]) hx hb d_R_listOpen_1 rfl hl (by decide) rfl (fun ls hl => ?_)
  have hl := lv_sub hl [1, 2, 3, 0] rfl
  obtain ⟨I2, μ2, hi2, hs2⟩ := hw
  have L2 : ∀ (n : Nat) (l3_2 : Int32) (v_open_2 : Int32) (v_openPlaces_2 : (Nat → Int32)) (H : Heap) (locs : List Loc) (ls : Array Slot), μ2 l3_2 v_open_2 v_openPlaces_2 < n → I2 l3_2 v_open_2 v_openPlaces_2 → lv_has ls 5 [(0, .ref h0), (1, .int p0), (2, .int p1), (3, .int l3_2)] → va_P (dC, dI) classes (WS_R_listOpen cI cL cZ h0 a_amounts a_stepAmounts a_groupAmounts a_outsidersCredits a_openPlaces v_made v_companies v_accounts v_open_2 v_amounts v_openPlaces_2) H → va_D A (WS_R_listOpen cI cL cZ h0 a_amounts a_stepAmounts a_groupAmounts a_outsidersCredits a_openPlaces v_made v_companies v_accounts v_open_2 v_amounts v_openPlaces_2) → va_S A s.heap H locs → W p l e (headSpec ws_R_listOpen rm_R_listOpen).room s m ([.ref h0, .int p0, .int p1] : List Value).toArray below meth c H locs 0 0 (MQ below (QC_R_listOpen dC dI cI cL cZ A h0 a_amounts a_stepAmounts a_groupAmounts a_outsidersCredits a_openPlaces v_made v_companies v_accounts v_open v_amounts v_openPlaces post) ([.ref h0, .int p0, .int p1] : List Value).toArray s 0 0 A) (F0 m 2 ls []) := by
    intro n
    induction n with
    | zero => intro l3_2 v_open_2 v_openPlaces_2 H locs ls hn; exact absurd hn (Nat.not_lt_zero _)
    | succ n ih2 =>
      intro l3_2 v_open_2 v_openPlaces_2 H locs ls hn2 hI hl hP hD hS
      have hw := hs2 l3_2 v_open_2 v_openPlaces_2 hI
      refine lv_iload_n hx hb d_R_listOpen_2 rfl (lv_at hl 3 rfl) ?_
      refine lv_aload_n hx hb d_R_listOpen_3 rfl (lv_at hl 0 rfl) ?_
      refine va_get (D := (dC, dI)) (ci := 1) (v := .int v_accounts) (C := R_R) (T := F_R) (N := 9) hx hb hts (kx_in in_R) hown hK hP 0 rfl rfl 2 (by decide) (hts _ (kx_w iw_58)) (fun _ h9 => h9) rfl d_R_listOpen_4 ?_
      refine lv_icmp_ge (tgt := 69) hx hb d_R_listOpen_7 rfl (fun hc => ?_) (fun hc => ?_)
      ·
        have hw := hw.1 hc
        exact W.vret hx hb hr (fun t ht hW => ⟨⟨(v_open_2, v_openPlaces_2), rfl, hw, ⟨by rw [ht]; exact hP, hD⟩⟩, hS.F ht⟩) hS.2.2 d_R_listOpen_69
      ·
        have hw := hw.2 hc
        refine lv_iload_n hx hb d_R_listOpen_10 rfl (lv_at hl 1 rfl) ?_
        refine lv_iload_n hx hb d_R_listOpen_11 rfl (lv_at hl 2 rfl) ?_
        refine lv_iload_n hx hb d_R_listOpen_12 rfl (lv_at hl 3 rfl) ?_
        refine kx_calli (ws' := fun u13 => (WS_R_listOpen cI cL cZ h0 a_amounts a_stepAmounts a_groupAmounts a_outsidersCredits a_openPlaces v_made v_companies v_accounts v_open_2 v_amounts v_openPlaces_2)) (va_runSN (As := [.int p0, .int p1, .int l3_2]) (rest := []) ⟨hx, hb, hml, hown, hts⟩ (c_D_place l dC dI cI cL cZ  H.size p0 p1 l3_2 hw) ⟨(va_cnB 3 hts (kx_good iw_212) rfl rfl rfl hN (hts _ (kx_w iw_1)) (by decide +kernel) ⟨Nat.le_of_ble_eq_true rfl, Nat.le_of_ble_eq_true rfl⟩), (hts _ (kx_w iw_211)), trivial⟩ (kx_preS hN hK hP hD [] (by decide) rfl) rfl rfl hl.1 rfl (lv_room (Nat.le_of_ble_eq_true rfl)) d_R_listOpen_13 ⟨Nat.le_of_ble_eq_true rfl, Nat.le_of_ble_eq_true rfl⟩) hP hD hS hA [] [0, 1, 2] rfl rfl (by decide) (by decide) [0, 1, 2] (by decide) (fun _ => rfl) (fun r13 u13 H locs hw hP hD hS => ?_)
        have hP : va_P (dC, dI) classes (WS_R_listOpen cI cL cZ h0 a_amounts a_stepAmounts a_groupAmounts a_outsidersCredits a_openPlaces v_made v_companies v_accounts v_open_2 v_amounts v_openPlaces_2) H := hP
        have hD : va_D A (WS_R_listOpen cI cL cZ h0 a_amounts a_stepAmounts a_groupAmounts a_outsidersCredits a_openPlaces v_made v_companies v_accounts v_open_2 v_amounts v_openPlaces_2) := hD
        refine lv_istore (lv' := [(4, .int r13), (0, .ref h0), (1, .int p0), (2, .int p1), (3, .int l3_2)]) hx hb d_R_listOpen_16 hl (by decide) rfl (fun ls hl => ?_)
        refine lv_aload_n hx hb d_R_listOpen_18 rfl (lv_at hl 1 rfl) ?_
        refine va_get (D := (dC, dI)) (ci := 1) (v := .ref a_amounts) (C := R_R) (T := F_R) (N := 9) hx hb hts (kx_in in_R) hown hK hP 0 rfl rfl 3 (by decide) (hts _ (kx_w iw_59)) (fun _ h9 => h9) rfl d_R_listOpen_19 ?_
        refine lv_iload hx hb d_R_listOpen_22 (lv_at hl 0 rfl) ?_
        obtain ⟨hi, hw⟩ := hw
        refine va_lald hx hb hK hP 1 1 rfl rfl hi d_R_listOpen_24 ?_
        refine lv_lconst (v := 0) hx hb d_R_listOpen_25 (by decide) ?_
        refine W.lcmp hx hb d_R_listOpen_26 ?_
        refine lv_if_eq (tgt := 63) hx hb d_R_listOpen_27 rfl (fun hc => ?_) (fun hc => ?_)
        ·
          have hc := (lc_eq _ _).mp hc
          have hw := hw.1 hc
          refine lv_iinc (v := (l3_2 + 1)) (lv' := [(3, .int (l3_2 + 1)), (4, .int r13), (0, .ref h0), (1, .int p0), (2, .int p1)]) hx hb d_R_listOpen_63 hl (k := 4) rfl rfl (by decide) rfl (fun ls hl => ?_)
          refine lv_goto (tgt := 2) hx hb d_R_listOpen_66 rfl ?_
          have hl := lv_sub hl [2, 3, 4, 0] rfl
          exact ih2 (l3_2 + 1) v_open_2 v_openPlaces_2 _ _ _ (Nat.lt_of_lt_of_le hw.2 (Nat.le_of_lt_succ hn2)) hw.1 hl hP hD hS
        ·
          have hc := mt (lc_eq _ _).mpr hc
          have hw := hw.2 hc
          refine lv_aload_n hx hb d_R_listOpen_30 rfl (lv_at hl 1 rfl) ?_
          refine va_get (D := (dC, dI)) (ci := 1) (v := .int v_open_2) (C := R_R) (T := F_R) (N := 9) hx hb hts (kx_in in_R) hown hK hP 0 rfl rfl 8 (by decide) (hts _ (kx_w iw_64)) (fun _ h9 => h9) rfl d_R_listOpen_31 ?_
          refine lv_aload_n hx hb d_R_listOpen_34 rfl (lv_at hl 1 rfl) ?_
          refine va_get (D := (dC, dI)) (ci := 1) (v := .ref a_openPlaces) (C := R_R) (T := F_R) (N := 9) hx hb hts (kx_in in_R) hown hK hP 0 rfl rfl 7 (by decide) (hts _ (kx_w iw_63)) (fun _ h9 => h9) rfl d_R_listOpen_35 ?_
          refine va_alen (v := 1584) hx hb hK hP 2 0 rfl rfl rfl d_R_listOpen_38 ?_
          refine lv_icmp_ge (tgt := 63) hx hb d_R_listOpen_39 rfl (fun hc => ?_) (fun hc => ?_)
          ·
            have hw := hw.1 hc
            refine lv_iinc (v := (l3_2 + 1)) (lv' := [(3, .int (l3_2 + 1)), (4, .int r13), (0, .ref h0), (1, .int p0), (2, .int p1)]) hx hb d_R_listOpen_63 hl (k := 4) rfl rfl (by decide) rfl (fun ls hl => ?_)
            refine lv_goto (tgt := 2) hx hb d_R_listOpen_66 rfl ?_
            have hl := lv_sub hl [2, 3, 4, 0] rfl
            exact ih2 (l3_2 + 1) v_open_2 v_openPlaces_2 _ _ _ (Nat.lt_of_lt_of_le hw.2 (Nat.le_of_lt_succ hn2)) hw.1 hl hP hD hS
          ·
            have hw := hw.2 hc
            refine lv_aload_n hx hb d_R_listOpen_42 rfl (lv_at hl 1 rfl) ?_
            refine va_get (D := (dC, dI)) (ci := 1) (v := .ref a_openPlaces) (C := R_R) (T := F_R) (N := 9) hx hb hts (kx_in in_R) hown hK hP 0 rfl rfl 7 (by decide) (hts _ (kx_w iw_63)) (fun _ h9 => h9) rfl d_R_listOpen_43 ?_
            refine lv_aload_n hx hb d_R_listOpen_46 rfl (lv_at hl 1 rfl) ?_
            refine va_get (D := (dC, dI)) (ci := 1) (v := .int v_open_2) (C := R_R) (T := F_R) (N := 9) hx hb hts (kx_in in_R) hown hK hP 0 rfl rfl 8 (by decide) (hts _ (kx_w iw_64)) (fun _ h9 => h9) rfl d_R_listOpen_47 ?_
            refine lv_iload hx hb d_R_listOpen_50 (lv_at hl 0 rfl) ?_
            obtain ⟨hi, hw⟩ := hw
            refine va_iast hx hb hK hP hD hS 2 0 rfl rfl hi d_R_listOpen_52 (fun H locs hP hD hS => ?_)
            have hP : va_P (dC, dI) classes (WS_R_listOpen cI cL cZ h0 a_amounts a_stepAmounts a_groupAmounts a_outsidersCredits a_openPlaces v_made v_companies v_accounts v_open_2 v_amounts (upd v_openPlaces_2 v_open_2.toNatClampNeg r13)) H := hP
            have hD : va_D A (WS_R_listOpen cI cL cZ h0 a_amounts a_stepAmounts a_groupAmounts a_outsidersCredits a_openPlaces v_made v_companies v_accounts v_open_2 v_amounts (upd v_openPlaces_2 v_open_2.toNatClampNeg r13)) := hD
            refine lv_aload_n hx hb d_R_listOpen_53 rfl (lv_at hl 1 rfl) ?_
            refine lv_dup hx hb d_R_listOpen_54 rfl ?_
            refine va_get (D := (dC, dI)) (ci := 1) (v := .int v_open_2) (C := R_R) (T := F_R) (N := 9) hx hb hts (kx_in in_R) hown hK hP 0 rfl rfl 8 (by decide) (hts _ (kx_w iw_64)) (fun _ h9 => h9) rfl d_R_listOpen_55 ?_
            refine lv_iconst (v := 1) hx hb d_R_listOpen_58 (by decide) ?_
            refine lv_iadd hx hb d_R_listOpen_59 ?_
            refine va_put (D := (dC, dI)) (ci := 1) (v := .int (v_open_2 + 1)) (ty := .int) (C := R_R) (T := F_R) (N := 9) hx hb hts (kx_in in_R) t_R t_R_ok n_R hown hK hP hD hS 0 rfl rfl 8 (by decide) (hts _ (kx_w iw_64)) (fun _ h9 => h9) rfl (by decide +kernel) rfl rfl (Nat.le_of_ble_eq_true rfl) d_R_listOpen_60 (fun H locs hP hD hS => ?_)
            have hP : va_P (dC, dI) classes (WS_R_listOpen cI cL cZ h0 a_amounts a_stepAmounts a_groupAmounts a_outsidersCredits a_openPlaces v_made v_companies v_accounts (v_open_2 + 1) v_amounts (upd v_openPlaces_2 v_open_2.toNatClampNeg r13)) H := hP
            have hD : va_D A (WS_R_listOpen cI cL cZ h0 a_amounts a_stepAmounts a_groupAmounts a_outsidersCredits a_openPlaces v_made v_companies v_accounts (v_open_2 + 1) v_amounts (upd v_openPlaces_2 v_open_2.toNatClampNeg r13)) := hD
            refine lv_iinc (v := (l3_2 + 1)) (lv' := [(3, .int (l3_2 + 1)), (4, .int r13), (0, .ref h0), (1, .int p0), (2, .int p1)]) hx hb d_R_listOpen_63 hl (k := 4) rfl rfl (by decide) rfl (fun ls hl => ?_)
            refine lv_goto (tgt := 2) hx hb d_R_listOpen_66 rfl ?_
            have hl := lv_sub hl [2, 3, 4, 0] rfl
            exact ih2 (l3_2 + 1) (v_open_2 + 1) (upd v_openPlaces_2 v_open_2.toNatClampNeg r13) _ _ _ (Nat.lt_of_lt_of_le hw.2 (Nat.le_of_lt_succ hn2)) hw.1 hl hP hD hS
  exact L2 _ 0 v_open v_openPlaces _ _ _ (Nat.lt_succ_self _) hi2 hl hP hD hS
/-! ConsolidationDesk$Report.finish()V -/
abbrev y_R_finish : MethodName := ⟨"ConsolidationDesk$Report", "finish", "()V"⟩
theorem d_R_finish_0 : decode prog_3_method_8_code 0 = .ok (.iconst 0, 1) := by decide +kernel
theorem d_R_finish_1 : decode prog_3_method_8_code 1 = .ok (.istore_n 1, 1) := by decide +kernel
theorem d_R_finish_2 : decode prog_3_method_8_code 2 = .ok (.iload_n 1, 1) := by decide +kernel
theorem d_R_finish_3 : decode prog_3_method_8_code 3 = .ok (.aload_n 0, 1) := by decide +kernel
theorem d_R_finish_4 : decode prog_3_method_8_code 4 = .ok (.getfield 15, 3) := by decide +kernel
theorem d_R_finish_7 : decode prog_3_method_8_code 7 = .ok (.if_icmp .ge 41, 3) := by decide +kernel
theorem d_R_finish_10 : decode prog_3_method_8_code 10 = .ok (.iconst 0, 1) := by decide +kernel
theorem d_R_finish_11 : decode prog_3_method_8_code 11 = .ok (.istore_n 2, 1) := by decide +kernel
theorem d_R_finish_12 : decode prog_3_method_8_code 12 = .ok (.iload_n 2, 1) := by decide +kernel
theorem d_R_finish_13 : decode prog_3_method_8_code 13 = .ok (.aload_n 0, 1) := by decide +kernel
theorem d_R_finish_14 : decode prog_3_method_8_code 14 = .ok (.getfield 19, 3) := by decide +kernel
theorem d_R_finish_17 : decode prog_3_method_8_code 17 = .ok (.if_icmp .ge 25, 3) := by decide +kernel
theorem d_R_finish_20 : decode prog_3_method_8_code 20 = .ok (.aload_n 0, 1) := by decide +kernel
theorem d_R_finish_21 : decode prog_3_method_8_code 21 = .ok (.getfield 29, 3) := by decide +kernel
theorem d_R_finish_24 : decode prog_3_method_8_code 24 = .ok (.iload_n 2, 1) := by decide +kernel
theorem d_R_finish_25 : decode prog_3_method_8_code 25 = .ok (.dup2, 1) := by decide +kernel
theorem d_R_finish_26 : decode prog_3_method_8_code 26 = .ok (.laload, 1) := by decide +kernel
theorem d_R_finish_27 : decode prog_3_method_8_code 27 = .ok (.aload_n 0, 1) := by decide +kernel
theorem d_R_finish_28 : decode prog_3_method_8_code 28 = .ok (.iconst 2, 1) := by decide +kernel
theorem d_R_finish_29 : decode prog_3_method_8_code 29 = .ok (.iload_n 1, 1) := by decide +kernel
theorem d_R_finish_30 : decode prog_3_method_8_code 30 = .ok (.iload_n 2, 1) := by decide +kernel
theorem d_R_finish_31 : decode prog_3_method_8_code 31 = .ok (.invokevirtual 65, 3) := by decide +kernel
theorem d_R_finish_34 : decode prog_3_method_8_code 34 = .ok (.ladd, 1) := by decide +kernel
theorem d_R_finish_35 : decode prog_3_method_8_code 35 = .ok (.lastore, 1) := by decide +kernel
theorem d_R_finish_36 : decode prog_3_method_8_code 36 = .ok (.iinc 2 1, 3) := by decide +kernel
theorem d_R_finish_39 : decode prog_3_method_8_code 39 = .ok (.goto (-27), 3) := by decide +kernel
theorem d_R_finish_42 : decode prog_3_method_8_code 42 = .ok (.iinc 1 1, 3) := by decide +kernel
theorem d_R_finish_45 : decode prog_3_method_8_code 45 = .ok (.goto (-43), 3) := by decide +kernel
theorem d_R_finish_48 : decode prog_3_method_8_code 48 = .ok (.aload_n 0, 1) := by decide +kernel
theorem d_R_finish_49 : decode prog_3_method_8_code 49 = .ok (.iconst 1, 1) := by decide +kernel
theorem d_R_finish_50 : decode prog_3_method_8_code 50 = .ok (.putfield 9, 3) := by decide +kernel
theorem d_R_finish_53 : decode prog_3_method_8_code 53 = .ok (.return_, 1) := by decide +kernel
abbrev WS_R_finish (cI cL cZ : ClassId)  (h0 a_amounts a_stepAmounts a_groupAmounts a_outsidersCredits a_openPlaces : Nat) (v_made : Int32) (v_companies : Int32) (v_accounts : Int32) (v_open : Int32) (v_stepAmounts : (Nat → Int64)) (v_groupAmounts : (Nat → Int64)) : va_W := [(h0, .inr (1, [.int v_made, .int v_companies, .int v_accounts, .ref a_amounts, .ref a_stepAmounts, .ref a_groupAmounts, .ref a_outsidersCredits, .ref a_openPlaces, .int v_open])), (a_stepAmounts, .inl (cL, 432, .inr (.inl v_stepAmounts))), (a_groupAmounts, .inl (cL, 12, .inr (.inl v_groupAmounts)))]
def wp_R_finish   (v_made : Int32) (v_companies : Int32) (v_accounts : Int32) (v_stepAmounts : (Nat → Int64)) (v_groupAmounts : (Nat → Int64)) (post : (Int32 × (Nat → Int64)) → Prop) : Prop := (∃ (I2 : Int32 → (Nat → Int64) → Prop) (μ2 : Int32 → (Nat → Int64) → Nat), I2 0 v_groupAmounts ∧ ∀ (l1_2 : Int32) (v_groupAmounts_2 : (Nat → Int64)), I2 l1_2 v_groupAmounts_2 → ((v_companies ≤ l1_2 → post (1, v_groupAmounts_2)) ∧ (¬ v_companies ≤ l1_2 → (∃ (I12 : Int32 → (Nat → Int64) → Prop) (μ12 : Int32 → (Nat → Int64) → Nat), I12 0 v_groupAmounts_2 ∧ ∀ (l2_12 : Int32) (v_groupAmounts_12 : (Nat → Int64)), I12 l2_12 v_groupAmounts_12 → ((v_accounts ≤ l2_12 → I2 (l1_2 + 1) v_groupAmounts_12 ∧ μ2 (l1_2 + 1) v_groupAmounts_12 < μ2 l1_2 v_groupAmounts_2) ∧ (¬ v_accounts ≤ l2_12 → (vp_in l2_12 12 ∧ (wp_R_stepAmount 2 l1_2 l2_12 v_stepAmounts (fun (r31 : Int64) (u31 : Unit) => (vp_in l2_12 12 ∧ I12 (l2_12 + 1) (vp_updL v_groupAmounts_12 l2_12.toNatClampNeg ((v_groupAmounts_12 l2_12.toNatClampNeg) + r31)) ∧ μ12 (l2_12 + 1) (vp_updL v_groupAmounts_12 l2_12.toNatClampNeg ((v_groupAmounts_12 l2_12.toNatClampNeg) + r31)) < μ12 l2_12 v_groupAmounts_12))))))))))
abbrev ws_R_finish : List Cond := .code y_R_finish prog_3_method_8_code 3 none :: kxW
abbrev rm_R_finish : Room := { frames := 2, cells := 0, slots := 0, locals := 45 }
abbrev QC_R_finish (dC : Nat → ClassId) (dI : Nat → Nat → Nat) (cI cL cZ : ClassId) (A : Nat → Prop)  (h0 a_amounts a_stepAmounts a_groupAmounts a_outsidersCredits a_openPlaces : Nat) (v_made : Int32) (v_companies : Int32) (v_accounts : Int32) (v_open : Int32) (v_stepAmounts : (Nat → Int64)) (v_groupAmounts : (Nat → Int64)) (post : (Int32 × (Nat → Int64)) → Prop) : Array Value → State → Outcome → State → Prop := va_Qv post (fun (u : Int32 × (Nat → Int64)) t => kx_B (dC, dI) classes A (WS_R_finish cI cL cZ h0 a_amounts a_stepAmounts a_groupAmounts a_outsidersCredits a_openPlaces u.1 v_companies v_accounts v_open v_stepAmounts u.2) t) A
set_option maxHeartbeats 4000000 in
set_option maxRecDepth 100000 in
theorem c_R_finish (l : Launch) (dC : Nat → ClassId) (dI : Nat → Nat → Nat) (cI cL cZ : ClassId)  (h0 a_amounts a_stepAmounts a_groupAmounts a_outsidersCredits a_openPlaces : Nat) (v_made : Int32) (v_companies : Int32) (v_accounts : Int32) (v_open : Int32) (v_stepAmounts : (Nat → Int64)) (v_groupAmounts : (Nat → Int64)) (sz : Nat)  {post : (Int32 × (Nat → Int64)) → Prop} (hw : wp_R_finish v_made v_companies v_accounts v_stepAmounts v_groupAmounts post) : Met l y_R_finish ws_R_finish rm_R_finish (kx_Pc (dC, dI) classes (kx_T cI cL cZ) (WS_R_finish cI cL cZ h0 a_amounts a_stepAmounts a_groupAmounts a_outsidersCredits a_openPlaces v_made v_companies v_accounts v_open v_stepAmounts v_groupAmounts) sz [.ref h0]) (QC_R_finish dC dI cI cL cZ (va_A (WS_R_finish cI cL cZ h0 a_amounts a_stepAmounts a_groupAmounts a_outsidersCredits a_openPlaces v_made v_companies v_accounts v_open v_stepAmounts v_groupAmounts) sz) h0 a_amounts a_stepAmounts a_groupAmounts a_outsidersCredits a_openPlaces v_made v_companies v_accounts v_open v_stepAmounts v_groupAmounts post) 0 0 (va_A (WS_R_finish cI cL cZ h0 a_amounts a_stepAmounts a_groupAmounts a_outsidersCredits a_openPlaces v_made v_companies v_accounts v_open v_stepAmounts v_groupAmounts) sz) := by
  refine Met.ofW (cc := prog_3_method_8_code) (maxL := 3) (ret := none) (by decide) rfl ?_
  intro p e s m args below meth c s₁ B hml hv
  obtain ⟨rfl, hsz, hP, hK, hD0, hN⟩ := hv
  have hx := B.exec
  have hb := B.bytes
  have hr := B.returns
  have hts := atoms_spec (ws := ws_R_finish) B.pre
  have hown : s.vm.findClass R_R = some m.cls := findClass_of_methodNamed B.named
  have hlocks := B.notSynchronized
  subst hsz
  have hD := hD0.self (sz := s.heap.size)
  generalize hAe : va_A (WS_R_finish cI cL cZ h0 a_amounts a_stepAmounts a_groupAmounts a_outsidersCredits a_openPlaces v_made v_companies v_accounts v_open v_stepAmounts v_groupAmounts) s.heap.size = A at hD ⊢
  have hA : ∀ q : Nat, s.heap.size ≤ q → A q := fun q h => by rw [← hAe]; exact Or.inr h
  have hS : va_S A s.heap s.heap [] := va_S.rf
  have hP : va_P (dC, dI) classes (WS_R_finish cI cL cZ h0 a_amounts a_stepAmounts a_groupAmounts a_outsidersCredits a_openPlaces v_made v_companies v_accounts v_open v_stepAmounts v_groupAmounts) s.heap := hP
  have hl := lv_entry ([.ref h0]) (n := 3) (Nat.le_of_ble_eq_true rfl)
  rw [lg_entry_eq]
  generalize (lg_sl ([.ref h0]) ++ List.replicate (3 - (lg_sl ([.ref h0])).length) Slot.unset).toArray = ls at hl ⊢
  have hl : lv_has ls 3 [(0, .ref h0)] := hl
  unfold wp_R_finish at hw
  refine (show ∀ (H : Heap) (locs : List Loc), va_P (dC, dI) classes (WS_R_finish cI cL cZ h0 a_amounts a_stepAmounts a_groupAmounts a_outsidersCredits a_openPlaces v_made v_companies v_accounts v_open v_stepAmounts v_groupAmounts) H → va_S A s.heap H locs → W p l e (headSpec ws_R_finish rm_R_finish).room s m ([.ref h0] : List Value).toArray below meth c H locs 0 0 (MQ below (QC_R_finish dC dI cI cL cZ A h0 a_amounts a_stepAmounts a_groupAmounts a_outsidersCredits a_openPlaces v_made v_companies v_accounts v_open v_stepAmounts v_groupAmounts post) ([.ref h0] : List Value).toArray s 0 0 A) (F0 m 0 ls []) from ?_) _ _ hP hS
  intro H locs hP hS
  refine lv_iconst (v := 0) hx hb d_R_finish_0 (by decide) ?_
  refine lv_istore_n (lv' := [(1, .int 0), (0, .ref h0)]) hx hb d_R_finish_1 rfl hl (by decide) rfl (fun ls hl => ?_)
  have hl := lv_sub hl [1, 0] rfl
  obtain ⟨I2, μ2, hi2, hs2⟩ := hw
  have L2 : ∀ (n : Nat) (l1_2 : Int32) (v_groupAmounts_2 : (Nat → Int64)) (H : Heap) (locs : List Loc) (ls : Array Slot), μ2 l1_2 v_groupAmounts_2 < n → I2 l1_2 v_groupAmounts_2 → lv_has ls 3 [(0, .ref h0), (1, .int l1_2)] → va_P (dC, dI) classes (WS_R_finish cI cL cZ h0 a_amounts a_stepAmounts a_groupAmounts a_outsidersCredits a_openPlaces v_made v_companies v_accounts v_open v_stepAmounts v_groupAmounts_2) H → va_D A (WS_R_finish cI cL cZ h0 a_amounts a_stepAmounts a_groupAmounts a_outsidersCredits a_openPlaces v_made v_companies v_accounts v_open v_stepAmounts v_groupAmounts_2) → va_S A s.heap H locs → W p l e (headSpec ws_R_finish rm_R_finish).room s m ([.ref h0] : List Value).toArray below meth c H locs 0 0 (MQ below (QC_R_finish dC dI cI cL cZ A h0 a_amounts a_stepAmounts a_groupAmounts a_outsidersCredits a_openPlaces v_made v_companies v_accounts v_open v_stepAmounts v_groupAmounts post) ([.ref h0] : List Value).toArray s 0 0 A) (F0 m 2 ls []) := by
    intro n
    induction n with
    | zero => intro l1_2 v_groupAmounts_2 H locs ls hn; exact absurd hn (Nat.not_lt_zero _)
    | succ n ih2 =>
      intro l1_2 v_groupAmounts_2 H locs ls hn2 hI hl hP hD hS
      have hw := hs2 l1_2 v_groupAmounts_2 hI
      refine lv_iload_n hx hb d_R_finish_2 rfl (lv_at hl 1 rfl) ?_
      refine lv_aload_n hx hb d_R_finish_3 rfl (lv_at hl 0 rfl) ?_
      refine va_get (D := (dC, dI)) (ci := 1) (v := .int v_companies) (C := R_R) (T := F_R) (N := 9) hx hb hts (kx_in in_R) hown hK hP 0 rfl rfl 1 (by decide) (hts _ (kx_w iw_57)) (fun _ h9 => h9) rfl d_R_finish_4 ?_
      refine lv_icmp_ge (tgt := 48) hx hb d_R_finish_7 rfl (fun hc => ?_) (fun hc => ?_)
      ·
        have hw := hw.1 hc
        refine lv_aload_n hx hb d_R_finish_48 rfl (lv_at hl 0 rfl) ?_
        refine lv_iconst (v := 1) hx hb d_R_finish_49 (by decide) ?_
        refine va_put (D := (dC, dI)) (ci := 1) (v := .int 1) (ty := .boolean) (C := R_R) (T := F_R) (N := 9) hx hb hts (kx_in in_R) t_R t_R_ok n_R hown hK hP hD hS 0 rfl rfl 0 (by decide) (hts _ (kx_w iw_56)) (fun _ h9 => h9) rfl (by decide +kernel) (by decide) rfl (Nat.le_of_ble_eq_true rfl) d_R_finish_50 (fun H locs hP hD hS => ?_)
        have hP : va_P (dC, dI) classes (WS_R_finish cI cL cZ h0 a_amounts a_stepAmounts a_groupAmounts a_outsidersCredits a_openPlaces 1 v_companies v_accounts v_open v_stepAmounts v_groupAmounts_2) H := hP
        have hD : va_D A (WS_R_finish cI cL cZ h0 a_amounts a_stepAmounts a_groupAmounts a_outsidersCredits a_openPlaces 1 v_companies v_accounts v_open v_stepAmounts v_groupAmounts_2) := hD
        exact W.vret hx hb hr (fun t ht hW => ⟨⟨(1, v_groupAmounts_2), rfl, hw, ⟨by rw [ht]; exact hP, hD⟩⟩, hS.F ht⟩) hS.2.2 d_R_finish_53
      ·
        have hw := hw.2 hc
        refine lv_iconst (v := 0) hx hb d_R_finish_10 (by decide) ?_
        refine lv_istore_n (lv' := [(2, .int 0), (0, .ref h0), (1, .int l1_2)]) hx hb d_R_finish_11 rfl hl (by decide) rfl (fun ls hl => ?_)
        have hl := lv_sub hl [1, 2, 0] rfl
        obtain ⟨I12, μ12, hi12, hs12⟩ := hw
        have L12 : ∀ (n : Nat) (l2_12 : Int32) (v_groupAmounts_12 : (Nat → Int64)) (H : Heap) (locs : List Loc) (ls : Array Slot), μ12 l2_12 v_groupAmounts_12 < n → I12 l2_12 v_groupAmounts_12 → lv_has ls 3 [(0, .ref h0), (1, .int l1_2), (2, .int l2_12)] → va_P (dC, dI) classes (WS_R_finish cI cL cZ h0 a_amounts a_stepAmounts a_groupAmounts a_outsidersCredits a_openPlaces v_made v_companies v_accounts v_open v_stepAmounts v_groupAmounts_12) H → va_D A (WS_R_finish cI cL cZ h0 a_amounts a_stepAmounts a_groupAmounts a_outsidersCredits a_openPlaces v_made v_companies v_accounts v_open v_stepAmounts v_groupAmounts_12) → va_S A s.heap H locs → W p l e (headSpec ws_R_finish rm_R_finish).room s m ([.ref h0] : List Value).toArray below meth c H locs 0 0 (MQ below (QC_R_finish dC dI cI cL cZ A h0 a_amounts a_stepAmounts a_groupAmounts a_outsidersCredits a_openPlaces v_made v_companies v_accounts v_open v_stepAmounts v_groupAmounts post) ([.ref h0] : List Value).toArray s 0 0 A) (F0 m 12 ls []) := by
          intro n
          induction n with
          | zero => intro l2_12 v_groupAmounts_12 H locs ls hn; exact absurd hn (Nat.not_lt_zero _)
          | succ n ih12 =>
            intro l2_12 v_groupAmounts_12 H locs ls hn12 hI hl hP hD hS
            have hw := hs12 l2_12 v_groupAmounts_12 hI
            refine lv_iload_n hx hb d_R_finish_12 rfl (lv_at hl 2 rfl) ?_
            refine lv_aload_n hx hb d_R_finish_13 rfl (lv_at hl 0 rfl) ?_
            refine va_get (D := (dC, dI)) (ci := 1) (v := .int v_accounts) (C := R_R) (T := F_R) (N := 9) hx hb hts (kx_in in_R) hown hK hP 0 rfl rfl 2 (by decide) (hts _ (kx_w iw_58)) (fun _ h9 => h9) rfl d_R_finish_14 ?_
            refine lv_icmp_ge (tgt := 42) hx hb d_R_finish_17 rfl (fun hc => ?_) (fun hc => ?_)
            ·
              have hw := hw.1 hc
              refine lv_iinc (v := (l1_2 + 1)) (lv' := [(1, .int (l1_2 + 1)), (0, .ref h0), (2, .int l2_12)]) hx hb d_R_finish_42 hl (k := 1) rfl rfl (by decide) rfl (fun ls hl => ?_)
              refine lv_goto (tgt := 2) hx hb d_R_finish_45 rfl ?_
              have hl := lv_sub hl [1, 0] rfl
              exact ih2 (l1_2 + 1) v_groupAmounts_12 _ _ _ (Nat.lt_of_lt_of_le hw.2 (Nat.le_of_lt_succ hn2)) hw.1 hl hP hD hS
            ·
              have hw := hw.2 hc
              refine lv_aload_n hx hb d_R_finish_20 rfl (lv_at hl 0 rfl) ?_
              refine va_get (D := (dC, dI)) (ci := 1) (v := .ref a_groupAmounts) (C := R_R) (T := F_R) (N := 9) hx hb hts (kx_in in_R) hown hK hP 0 rfl rfl 5 (by decide) (hts _ (kx_w iw_61)) (fun _ h9 => h9) rfl d_R_finish_21 ?_
              refine lv_iload_n hx hb d_R_finish_24 rfl (lv_at hl 2 rfl) ?_
              refine lv_dup2_11 hx hb d_R_finish_25 rfl rfl ?_
              obtain ⟨hi, hw⟩ := hw
              refine va_lald hx hb hK hP 2 1 rfl rfl hi d_R_finish_26 ?_
              refine lv_aload_n hx hb d_R_finish_27 rfl (lv_at hl 0 rfl) ?_
              refine lv_iconst (v := 2) hx hb d_R_finish_28 (by decide) ?_
              refine lv_iload_n hx hb d_R_finish_29 rfl (lv_at hl 1 rfl) ?_
              refine lv_iload_n hx hb d_R_finish_30 rfl (lv_at hl 2 rfl) ?_
              refine kx_calll (ws' := fun u31 => (WS_R_finish cI cL cZ h0 a_amounts a_stepAmounts a_groupAmounts a_outsidersCredits a_openPlaces v_made v_companies v_accounts v_open v_stepAmounts v_groupAmounts_12)) (va_runV (As := [.int 2, .int l1_2, .int l2_12]) (rest := [.long (v_groupAmounts_12 l2_12.toNatClampNeg), .int l2_12, .ref a_groupAmounts]) ⟨hx, hb, hml, hown, hts⟩ (c_R_stepAmount l dC dI cI cL cZ h0 a_amounts a_stepAmounts a_groupAmounts a_outsidersCredits a_openPlaces v_made v_companies v_accounts v_open v_stepAmounts H.size 2 l1_2 l2_12 hw) ⟨(callB_of 3 hts (kx_good iw_319) rfl rfl rfl (hts _ (kx_w iw_3)) (hts _ (kx_w iw_334)) (by decide +kernel) ⟨Nat.le_of_ble_eq_true rfl, Nat.le_of_ble_eq_true rfl⟩), (hts _ (kx_w iw_317)), (hts _ (kx_w iw_318))⟩ (kx_preV hN hK hP hD [0, 1] (by decide) rfl 0 rfl rfl) rfl rfl hl.1 rfl (lv_room (Nat.le_of_ble_eq_true rfl)) d_R_finish_31 ⟨Nat.le_of_ble_eq_true rfl, Nat.le_of_ble_eq_true rfl⟩) hP hD hS hA [0, 1] [2] rfl rfl (by decide) (by decide) [1, 2, 0] (by decide) (fun _ => rfl) (fun r31 u31 H locs hw hP hD hS => ?_)
              have hP : va_P (dC, dI) classes (WS_R_finish cI cL cZ h0 a_amounts a_stepAmounts a_groupAmounts a_outsidersCredits a_openPlaces v_made v_companies v_accounts v_open v_stepAmounts v_groupAmounts_12) H := hP
              have hD : va_D A (WS_R_finish cI cL cZ h0 a_amounts a_stepAmounts a_groupAmounts a_outsidersCredits a_openPlaces v_made v_companies v_accounts v_open v_stepAmounts v_groupAmounts_12) := hD
              refine lv_ladd hx hb d_R_finish_34 ?_
              obtain ⟨hi, hw⟩ := hw
              refine va_last hx hb hK hP hD hS 2 1 rfl rfl hi d_R_finish_35 (fun H locs hP hD hS => ?_)
              have hP : va_P (dC, dI) classes (WS_R_finish cI cL cZ h0 a_amounts a_stepAmounts a_groupAmounts a_outsidersCredits a_openPlaces v_made v_companies v_accounts v_open v_stepAmounts (vp_updL v_groupAmounts_12 l2_12.toNatClampNeg ((v_groupAmounts_12 l2_12.toNatClampNeg) + r31))) H := hP
              have hD : va_D A (WS_R_finish cI cL cZ h0 a_amounts a_stepAmounts a_groupAmounts a_outsidersCredits a_openPlaces v_made v_companies v_accounts v_open v_stepAmounts (vp_updL v_groupAmounts_12 l2_12.toNatClampNeg ((v_groupAmounts_12 l2_12.toNatClampNeg) + r31))) := hD
              refine lv_iinc (v := (l2_12 + 1)) (lv' := [(2, .int (l2_12 + 1)), (0, .ref h0), (1, .int l1_2)]) hx hb d_R_finish_36 hl (k := 2) rfl rfl (by decide) rfl (fun ls hl => ?_)
              refine lv_goto (tgt := 12) hx hb d_R_finish_39 rfl ?_
              have hl := lv_sub hl [1, 2, 0] rfl
              exact ih12 (l2_12 + 1) (vp_updL v_groupAmounts_12 l2_12.toNatClampNeg ((v_groupAmounts_12 l2_12.toNatClampNeg) + r31)) _ _ _ (Nat.lt_of_lt_of_le hw.2 (Nat.le_of_lt_succ hn12)) hw.1 hl hP hD hS
        exact L12 _ 0 v_groupAmounts_2 _ _ _ (Nat.lt_succ_self _) hi12 hl hP hD hS
  exact L2 _ 0 v_groupAmounts _ _ _ (Nat.lt_succ_self _) hi2 hl hP hD hS
