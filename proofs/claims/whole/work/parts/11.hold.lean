/-! ConsolidationDesk$Holdings.isControlled(I)Z -/
abbrev y_H_isControlled : MethodName := ⟨"ConsolidationDesk$Holdings", "isControlled", "(I)Z"⟩
theorem d_H_isControlled_0 : decode prog_2_method_2_code 0 = .ok (.aload_n 0, 1) := by decide +kernel
theorem d_H_isControlled_1 : decode prog_2_method_2_code 1 = .ok (.getfield 18, 3) := by decide +kernel
theorem d_H_isControlled_4 : decode prog_2_method_2_code 4 = .ok (.iload_n 1, 1) := by decide +kernel
theorem d_H_isControlled_5 : decode prog_2_method_2_code 5 = .ok (.baload, 1) := by decide +kernel
theorem d_H_isControlled_6 : decode prog_2_method_2_code 6 = .ok (.ireturn, 1) := by decide +kernel
abbrev WS_H_isControlled (cI cL cZ : ClassId)  (h0 a_parts a_chainLengths a_underControl a_shares a_chainShares a_longerChainShares : Nat) (v_underControl : (Nat → Int32)) : va_W := [(h0, .inr (0, [.ref a_parts, .ref a_chainLengths, .ref a_underControl, .ref a_shares, .ref a_chainShares, .ref a_longerChainShares])), (a_underControl, .inl (cZ, 12, .inl v_underControl))]
def wp_H_isControlled  (p0 : Int32) (v_underControl : (Nat → Int32)) (post : Int32 → Unit → Prop) : Prop := (vp_in p0 12 ∧ (narrow .boolean (.int (v_underControl p0.toNatClampNeg)) = .int (v_underControl p0.toNatClampNeg) ∧ post (v_underControl p0.toNatClampNeg) ()))
abbrev ws_H_isControlled : List Cond := .code y_H_isControlled prog_2_method_2_code 2 (some .boolean) :: kxW
abbrev rm_H_isControlled : Room := { frames := 0, cells := 0, slots := 0, locals := 0 }
abbrev QC_H_isControlled (dC : Nat → ClassId) (dI : Nat → Nat → Nat) (cI cL cZ : ClassId) (A : Nat → Prop)  (h0 a_parts a_chainLengths a_underControl a_shares a_chainShares a_longerChainShares : Nat) (v_underControl : (Nat → Int32)) (post : Int32 → Unit → Prop) : Array Value → State → Outcome → State → Prop := va_Qi post (fun (u : Unit) t => kx_B (dC, dI) classes A (WS_H_isControlled cI cL cZ h0 a_parts a_chainLengths a_underControl a_shares a_chainShares a_longerChainShares v_underControl) t) A
set_option maxHeartbeats 4000000 in
set_option maxRecDepth 100000 in
theorem c_H_isControlled (l : Launch) (dC : Nat → ClassId) (dI : Nat → Nat → Nat) (cI cL cZ : ClassId)  (h0 a_parts a_chainLengths a_underControl a_shares a_chainShares a_longerChainShares : Nat) (v_underControl : (Nat → Int32)) (sz : Nat) (p0 : Int32) {post : Int32 → Unit → Prop} (hw : wp_H_isControlled p0 v_underControl post) : Met l y_H_isControlled ws_H_isControlled rm_H_isControlled (kx_Pc (dC, dI) classes (kx_T cI cL cZ) (WS_H_isControlled cI cL cZ h0 a_parts a_chainLengths a_underControl a_shares a_chainShares a_longerChainShares v_underControl) sz [.ref h0, .int p0]) (QC_H_isControlled dC dI cI cL cZ (va_A (WS_H_isControlled cI cL cZ h0 a_parts a_chainLengths a_underControl a_shares a_chainShares a_longerChainShares v_underControl) sz) h0 a_parts a_chainLengths a_underControl a_shares a_chainShares a_longerChainShares v_underControl post) 0 0 (va_A (WS_H_isControlled cI cL cZ h0 a_parts a_chainLengths a_underControl a_shares a_chainShares a_longerChainShares v_underControl) sz) := by
  refine Met.ofW (cc := prog_2_method_2_code) (maxL := 2) (ret := (some .boolean)) (by decide) rfl ?_
  intro p e s m args below meth c s₁ B hml hv
  obtain ⟨rfl, hsz, hP, hK, hD0, hN⟩ := hv
  have hx := B.exec
  have hb := B.bytes
  have hr := B.returns
  have hts := atoms_spec (ws := ws_H_isControlled) B.pre
  have hown : s.vm.findClass R_H = some m.cls := findClass_of_methodNamed B.named
  have hlocks := B.notSynchronized
  subst hsz
  have hD := hD0.self (sz := s.heap.size)
  generalize hAe : va_A (WS_H_isControlled cI cL cZ h0 a_parts a_chainLengths a_underControl a_shares a_chainShares a_longerChainShares v_underControl) s.heap.size = A at hD ⊢
  have hA : ∀ q : Nat, s.heap.size ≤ q → A q := fun q h => by rw [← hAe]; exact Or.inr h
  have hS : va_S A s.heap s.heap [] := va_S.rf
  have hP : va_P (dC, dI) classes (WS_H_isControlled cI cL cZ h0 a_parts a_chainLengths a_underControl a_shares a_chainShares a_longerChainShares v_underControl) s.heap := hP
  have hl := lv_entry ([.ref h0, .int p0]) (n := 2) (Nat.le_of_ble_eq_true rfl)
  rw [lg_entry_eq]
  generalize (lg_sl ([.ref h0, .int p0]) ++ List.replicate (2 - (lg_sl ([.ref h0, .int p0])).length) Slot.unset).toArray = ls at hl ⊢
  have hl : lv_has ls 2 [(0, .ref h0), (1, .int p0)] := hl
  unfold wp_H_isControlled at hw
  refine (show ∀ (H : Heap) (locs : List Loc), va_P (dC, dI) classes (WS_H_isControlled cI cL cZ h0 a_parts a_chainLengths a_underControl a_shares a_chainShares a_longerChainShares v_underControl) H → va_S A s.heap H locs → W p l e (headSpec ws_H_isControlled rm_H_isControlled).room s m ([.ref h0, .int p0] : List Value).toArray below meth c H locs 0 0 (MQ below (QC_H_isControlled dC dI cI cL cZ A h0 a_parts a_chainLengths a_underControl a_shares a_chainShares a_longerChainShares v_underControl post) ([.ref h0, .int p0] : List Value).toArray s 0 0 A) (F0 m 0 ls []) from ?_) _ _ hP hS
  intro H locs hP hS
  refine lv_aload_n hx hb d_H_isControlled_0 rfl (lv_at hl 0 rfl) ?_
  refine va_get (D := (dC, dI)) (ci := 0) (v := .ref a_underControl) (C := R_H) (T := F_H) (N := 6) hx hb hts (kx_in in_H) hown hK hP 0 rfl rfl 2 (by decide) (hts _ (kx_w iw_30)) (fun _ h9 => h9) rfl d_H_isControlled_1 ?_
  refine lv_iload_n hx hb d_H_isControlled_4 rfl (lv_at hl 1 rfl) ?_
  obtain ⟨hi, hw⟩ := hw
  refine va_zald hx hb hK hP 1 2 rfl rfl hi d_H_isControlled_5 ?_
  obtain ⟨hnz, hw⟩ := hw
  exact W.zret (v := (v_underControl p0.toNatClampNeg)) hx hb hr hnz (fun t ht hW => ⟨⟨(v_underControl p0.toNatClampNeg), (), rfl, hw, ⟨by rw [ht]; exact hP, hD⟩⟩, hS.F ht⟩) hS.2.2 d_H_isControlled_6
/-! ConsolidationDesk$Holdings.headShare(I)J -/
abbrev y_H_headShare : MethodName := ⟨"ConsolidationDesk$Holdings", "headShare", "(I)J"⟩
theorem d_H_headShare_0 : decode prog_2_method_3_code 0 = .ok (.aload_n 0, 1) := by decide +kernel
theorem d_H_headShare_1 : decode prog_2_method_3_code 1 = .ok (.getfield 22, 3) := by decide +kernel
theorem d_H_headShare_4 : decode prog_2_method_3_code 4 = .ok (.iload_n 1, 1) := by decide +kernel
theorem d_H_headShare_5 : decode prog_2_method_3_code 5 = .ok (.laload, 1) := by decide +kernel
theorem d_H_headShare_6 : decode prog_2_method_3_code 6 = .ok (.lreturn, 1) := by decide +kernel
abbrev WS_H_headShare (cI cL cZ : ClassId)  (h0 a_parts a_chainLengths a_underControl a_shares a_chainShares a_longerChainShares : Nat) (v_shares : (Nat → Int64)) : va_W := [(h0, .inr (0, [.ref a_parts, .ref a_chainLengths, .ref a_underControl, .ref a_shares, .ref a_chainShares, .ref a_longerChainShares])), (a_shares, .inl (cL, 12, .inr (.inl v_shares)))]
def wp_H_headShare  (p0 : Int32) (v_shares : (Nat → Int64)) (post : Int64 → Unit → Prop) : Prop := (vp_in p0 12 ∧ post (v_shares p0.toNatClampNeg) ())
abbrev ws_H_headShare : List Cond := .code y_H_headShare prog_2_method_3_code 2 (some .long) :: kxW
abbrev rm_H_headShare : Room := { frames := 0, cells := 0, slots := 0, locals := 0 }
abbrev QC_H_headShare (dC : Nat → ClassId) (dI : Nat → Nat → Nat) (cI cL cZ : ClassId) (A : Nat → Prop)  (h0 a_parts a_chainLengths a_underControl a_shares a_chainShares a_longerChainShares : Nat) (v_shares : (Nat → Int64)) (post : Int64 → Unit → Prop) : Array Value → State → Outcome → State → Prop := va_Ql post (fun (u : Unit) t => kx_B (dC, dI) classes A (WS_H_headShare cI cL cZ h0 a_parts a_chainLengths a_underControl a_shares a_chainShares a_longerChainShares v_shares) t) A
set_option maxHeartbeats 4000000 in
set_option maxRecDepth 100000 in
theorem c_H_headShare (l : Launch) (dC : Nat → ClassId) (dI : Nat → Nat → Nat) (cI cL cZ : ClassId)  (h0 a_parts a_chainLengths a_underControl a_shares a_chainShares a_longerChainShares : Nat) (v_shares : (Nat → Int64)) (sz : Nat) (p0 : Int32) {post : Int64 → Unit → Prop} (hw : wp_H_headShare p0 v_shares post) : Met l y_H_headShare ws_H_headShare rm_H_headShare (kx_Pc (dC, dI) classes (kx_T cI cL cZ) (WS_H_headShare cI cL cZ h0 a_parts a_chainLengths a_underControl a_shares a_chainShares a_longerChainShares v_shares) sz [.ref h0, .int p0]) (QC_H_headShare dC dI cI cL cZ (va_A (WS_H_headShare cI cL cZ h0 a_parts a_chainLengths a_underControl a_shares a_chainShares a_longerChainShares v_shares) sz) h0 a_parts a_chainLengths a_underControl a_shares a_chainShares a_longerChainShares v_shares post) 0 0 (va_A (WS_H_headShare cI cL cZ h0 a_parts a_chainLengths a_underControl a_shares a_chainShares a_longerChainShares v_shares) sz) := by
  refine Met.ofW (cc := prog_2_method_3_code) (maxL := 2) (ret := (some .long)) (by decide) rfl ?_
  intro p e s m args below meth c s₁ B hml hv
  obtain ⟨rfl, hsz, hP, hK, hD0, hN⟩ := hv
  have hx := B.exec
  have hb := B.bytes
  have hr := B.returns
  have hts := atoms_spec (ws := ws_H_headShare) B.pre
  have hown : s.vm.findClass R_H = some m.cls := findClass_of_methodNamed B.named
  have hlocks := B.notSynchronized
  subst hsz
  have hD := hD0.self (sz := s.heap.size)
  generalize hAe : va_A (WS_H_headShare cI cL cZ h0 a_parts a_chainLengths a_underControl a_shares a_chainShares a_longerChainShares v_shares) s.heap.size = A at hD ⊢
  have hA : ∀ q : Nat, s.heap.size ≤ q → A q := fun q h => by rw [← hAe]; exact Or.inr h
  have hS : va_S A s.heap s.heap [] := va_S.rf
  have hP : va_P (dC, dI) classes (WS_H_headShare cI cL cZ h0 a_parts a_chainLengths a_underControl a_shares a_chainShares a_longerChainShares v_shares) s.heap := hP
  have hl := lv_entry ([.ref h0, .int p0]) (n := 2) (Nat.le_of_ble_eq_true rfl)
  rw [lg_entry_eq]
  generalize (lg_sl ([.ref h0, .int p0]) ++ List.replicate (2 - (lg_sl ([.ref h0, .int p0])).length) Slot.unset).toArray = ls at hl ⊢
  have hl : lv_has ls 2 [(0, .ref h0), (1, .int p0)] := hl
  unfold wp_H_headShare at hw
  refine (show ∀ (H : Heap) (locs : List Loc), va_P (dC, dI) classes (WS_H_headShare cI cL cZ h0 a_parts a_chainLengths a_underControl a_shares a_chainShares a_longerChainShares v_shares) H → va_S A s.heap H locs → W p l e (headSpec ws_H_headShare rm_H_headShare).room s m ([.ref h0, .int p0] : List Value).toArray below meth c H locs 0 0 (MQ below (QC_H_headShare dC dI cI cL cZ A h0 a_parts a_chainLengths a_underControl a_shares a_chainShares a_longerChainShares v_shares post) ([.ref h0, .int p0] : List Value).toArray s 0 0 A) (F0 m 0 ls []) from ?_) _ _ hP hS
  intro H locs hP hS
  refine lv_aload_n hx hb d_H_headShare_0 rfl (lv_at hl 0 rfl) ?_
  refine va_get (D := (dC, dI)) (ci := 0) (v := .ref a_shares) (C := R_H) (T := F_H) (N := 6) hx hb hts (kx_in in_H) hown hK hP 0 rfl rfl 3 (by decide) (hts _ (kx_w iw_31)) (fun _ h9 => h9) rfl d_H_headShare_1 ?_
  refine lv_iload_n hx hb d_H_headShare_4 rfl (lv_at hl 1 rfl) ?_
  obtain ⟨hi, hw⟩ := hw
  refine va_lald hx hb hK hP 1 1 rfl rfl hi d_H_headShare_5 ?_
  exact W.lret (v := (v_shares p0.toNatClampNeg)) hx hb hr (fun t ht hW => ⟨⟨(v_shares p0.toNatClampNeg), (), rfl, hw, ⟨by rw [ht]; exact hP, hD⟩⟩, hS.F ht⟩) hS.2.2 d_H_headShare_6
/-! ConsolidationDesk$Holdings.heldInAll(I)I -/
abbrev y_H_heldInAll : MethodName := ⟨"ConsolidationDesk$Holdings", "heldInAll", "(I)I"⟩
theorem d_H_heldInAll_0 : decode prog_2_method_5_code 0 = .ok (.iconst 0, 1) := by decide +kernel
theorem d_H_heldInAll_1 : decode prog_2_method_5_code 1 = .ok (.istore_n 2, 1) := by decide +kernel
theorem d_H_heldInAll_2 : decode prog_2_method_5_code 2 = .ok (.iconst 0, 1) := by decide +kernel
theorem d_H_heldInAll_3 : decode prog_2_method_5_code 3 = .ok (.istore_n 3, 1) := by decide +kernel
theorem d_H_heldInAll_4 : decode prog_2_method_5_code 4 = .ok (.iload_n 3, 1) := by decide +kernel
theorem d_H_heldInAll_5 : decode prog_2_method_5_code 5 = .ok (.bipush 12, 2) := by decide +kernel
theorem d_H_heldInAll_7 : decode prog_2_method_5_code 7 = .ok (.if_icmp .ge 23, 3) := by decide +kernel
theorem d_H_heldInAll_10 : decode prog_2_method_5_code 10 = .ok (.iload_n 2, 1) := by decide +kernel
theorem d_H_heldInAll_11 : decode prog_2_method_5_code 11 = .ok (.aload_n 0, 1) := by decide +kernel
theorem d_H_heldInAll_12 : decode prog_2_method_5_code 12 = .ok (.getfield 9, 3) := by decide +kernel
theorem d_H_heldInAll_15 : decode prog_2_method_5_code 15 = .ok (.iload_n 3, 1) := by decide +kernel
theorem d_H_heldInAll_16 : decode prog_2_method_5_code 16 = .ok (.bipush 12, 2) := by decide +kernel
theorem d_H_heldInAll_18 : decode prog_2_method_5_code 18 = .ok (.imul, 1) := by decide +kernel
theorem d_H_heldInAll_19 : decode prog_2_method_5_code 19 = .ok (.iload_n 1, 1) := by decide +kernel
theorem d_H_heldInAll_20 : decode prog_2_method_5_code 20 = .ok (.iadd, 1) := by decide +kernel
theorem d_H_heldInAll_21 : decode prog_2_method_5_code 21 = .ok (.iaload, 1) := by decide +kernel
theorem d_H_heldInAll_22 : decode prog_2_method_5_code 22 = .ok (.iadd, 1) := by decide +kernel
theorem d_H_heldInAll_23 : decode prog_2_method_5_code 23 = .ok (.istore_n 2, 1) := by decide +kernel
theorem d_H_heldInAll_24 : decode prog_2_method_5_code 24 = .ok (.iinc 3 1, 3) := by decide +kernel
theorem d_H_heldInAll_27 : decode prog_2_method_5_code 27 = .ok (.goto (-23), 3) := by decide +kernel
theorem d_H_heldInAll_30 : decode prog_2_method_5_code 30 = .ok (.iload_n 2, 1) := by decide +kernel
theorem d_H_heldInAll_31 : decode prog_2_method_5_code 31 = .ok (.ireturn, 1) := by decide +kernel
abbrev WS_H_heldInAll (cI cL cZ : ClassId)  (h0 a_parts a_chainLengths a_underControl a_shares a_chainShares a_longerChainShares : Nat) (v_parts : (Nat → Int32)) : va_W := [(h0, .inr (0, [.ref a_parts, .ref a_chainLengths, .ref a_underControl, .ref a_shares, .ref a_chainShares, .ref a_longerChainShares])), (a_parts, .inl (cI, 144, .inl v_parts))]
def wp_H_heldInAll  (p0 : Int32) (v_parts : (Nat → Int32)) (post : Int32 → Unit → Prop) : Prop := (∃ (I4 : Int32 → Int32 → Prop) (μ4 : Int32 → Int32 → Nat), I4 0 0 ∧ ∀ (l2_4 : Int32) (l3_4 : Int32), I4 l2_4 l3_4 → ((12 ≤ l3_4 → post l2_4 ()) ∧ (¬ 12 ≤ l3_4 → (vp_in ((l3_4 * 12) + p0) 144 ∧ (∀ x23 : Int32, x23 = (l2_4 + (v_parts (Int32.toNatClampNeg ((l3_4 * 12) + p0)))) → I4 x23 (l3_4 + 1) ∧ μ4 x23 (l3_4 + 1) < μ4 l2_4 l3_4)))))
abbrev ws_H_heldInAll : List Cond := .code y_H_heldInAll prog_2_method_5_code 4 (some .int) :: kxW
abbrev rm_H_heldInAll : Room := { frames := 0, cells := 0, slots := 0, locals := 0 }
abbrev QC_H_heldInAll (dC : Nat → ClassId) (dI : Nat → Nat → Nat) (cI cL cZ : ClassId) (A : Nat → Prop)  (h0 a_parts a_chainLengths a_underControl a_shares a_chainShares a_longerChainShares : Nat) (v_parts : (Nat → Int32)) (post : Int32 → Unit → Prop) : Array Value → State → Outcome → State → Prop := va_Qi post (fun (u : Unit) t => kx_B (dC, dI) classes A (WS_H_heldInAll cI cL cZ h0 a_parts a_chainLengths a_underControl a_shares a_chainShares a_longerChainShares v_parts) t) A
set_option maxHeartbeats 4000000 in
set_option maxRecDepth 100000 in
theorem c_H_heldInAll (l : Launch) (dC : Nat → ClassId) (dI : Nat → Nat → Nat) (cI cL cZ : ClassId)  (h0 a_parts a_chainLengths a_underControl a_shares a_chainShares a_longerChainShares : Nat) (v_parts : (Nat → Int32)) (sz : Nat) (p0 : Int32) {post : Int32 → Unit → Prop} (hw : wp_H_heldInAll p0 v_parts post) : Met l y_H_heldInAll ws_H_heldInAll rm_H_heldInAll (kx_Pc (dC, dI) classes (kx_T cI cL cZ) (WS_H_heldInAll cI cL cZ h0 a_parts a_chainLengths a_underControl a_shares a_chainShares a_longerChainShares v_parts) sz [.ref h0, .int p0]) (QC_H_heldInAll dC dI cI cL cZ (va_A (WS_H_heldInAll cI cL cZ h0 a_parts a_chainLengths a_underControl a_shares a_chainShares a_longerChainShares v_parts) sz) h0 a_parts a_chainLengths a_underControl a_shares a_chainShares a_longerChainShares v_parts post) 0 0 (va_A (WS_H_heldInAll cI cL cZ h0 a_parts a_chainLengths a_underControl a_shares a_chainShares a_longerChainShares v_parts) sz) := by
  refine Met.ofW (cc := prog_2_method_5_code) (maxL := 4) (ret := (some .int)) (by decide) rfl ?_
  intro p e s m args below meth c s₁ B hml hv
  obtain ⟨rfl, hsz, hP, hK, hD0, hN⟩ := hv
  have hx := B.exec
  have hb := B.bytes
  have hr := B.returns
  have hts := atoms_spec (ws := ws_H_heldInAll) B.pre
  have hown : s.vm.findClass R_H = some m.cls := findClass_of_methodNamed B.named
  have hlocks := B.notSynchronized
  subst hsz
  have hD := hD0.self (sz := s.heap.size)
  generalize hAe : va_A (WS_H_heldInAll cI cL cZ h0 a_parts a_chainLengths a_underControl a_shares a_chainShares a_longerChainShares v_parts) s.heap.size = A at hD ⊢
  have hA : ∀ q : Nat, s.heap.size ≤ q → A q := fun q h => by rw [← hAe]; exact Or.inr h
  have hS : va_S A s.heap s.heap [] := va_S.rf
  have hP : va_P (dC, dI) classes (WS_H_heldInAll cI cL cZ h0 a_parts a_chainLengths a_underControl a_shares a_chainShares a_longerChainShares v_parts) s.heap := hP
  have hl := lv_entry ([.ref h0, .int p0]) (n := 4) (Nat.le_of_ble_eq_true rfl)
  rw [lg_entry_eq]
  generalize (lg_sl ([.ref h0, .int p0]) ++ List.replicate (4 - (lg_sl ([.ref h0, .int p0])).length) Slot.unset).toArray = ls at hl ⊢
  have hl : lv_has ls 4 [(0, .ref h0), (1, .int p0)] := hl
  unfold wp_H_heldInAll at hw
  refine (show ∀ (H : Heap) (locs : List Loc), va_P (dC, dI) classes (WS_H_heldInAll cI cL cZ h0 a_parts a_chainLengths a_underControl a_shares a_chainShares a_longerChainShares v_parts) H → va_S A s.heap H locs → W p l e (headSpec ws_H_heldInAll rm_H_heldInAll).room s m ([.ref h0, .int p0] : List Value).toArray below meth c H locs 0 0 (MQ below (QC_H_heldInAll dC dI cI cL cZ A h0 a_parts a_chainLengths a_underControl a_shares a_chainShares a_longerChainShares v_parts post) ([.ref h0, .int p0] : List Value).toArray s 0 0 A) (F0 m 0 ls []) from ?_) _ _ hP hS
  intro H locs hP hS
  refine lv_iconst (v := 0) hx hb d_H_heldInAll_0 (by decide) ?_
  refine lv_istore_n (lv' := [(2, .int 0), (0, .ref h0), (1, .int p0)]) hx hb d_H_heldInAll_1 rfl hl (by decide) rfl (fun ls hl => ?_)
  refine lv_iconst (v := 0) hx hb d_H_heldInAll_2 (by decide) ?_
  refine lv_istore_n (lv' := [(3, .int 0), (2, .int 0), (0, .ref h0), (1, .int p0)]) hx hb d_H_heldInAll_3 rfl hl (by decide) rfl (fun ls hl => ?_)
  have hl := lv_sub hl [2, 3, 1, 0] rfl
  obtain ⟨I4, μ4, hi4, hs4⟩ := hw
  have L4 : ∀ (n : Nat) (l2_4 : Int32) (l3_4 : Int32) (H : Heap) (locs : List Loc) (ls : Array Slot), μ4 l2_4 l3_4 < n → I4 l2_4 l3_4 → lv_has ls 4 [(0, .ref h0), (1, .int p0), (2, .int l2_4), (3, .int l3_4)] → va_P (dC, dI) classes (WS_H_heldInAll cI cL cZ h0 a_parts a_chainLengths a_underControl a_shares a_chainShares a_longerChainShares v_parts) H → va_D A (WS_H_heldInAll cI cL cZ h0 a_parts a_chainLengths a_underControl a_shares a_chainShares a_longerChainShares v_parts) → va_S A s.heap H locs → W p l e (headSpec ws_H_heldInAll rm_H_heldInAll).room s m ([.ref h0, .int p0] : List Value).toArray below meth c H locs 0 0 (MQ below (QC_H_heldInAll dC dI cI cL cZ A h0 a_parts a_chainLengths a_underControl a_shares a_chainShares a_longerChainShares v_parts post) ([.ref h0, .int p0] : List Value).toArray s 0 0 A) (F0 m 4 ls []) := by
    intro n
    induction n with
    | zero => intro l2_4 l3_4 H locs ls hn; exact absurd hn (Nat.not_lt_zero _)
    | succ n ih4 =>
      intro l2_4 l3_4 H locs ls hn4 hI hl hP hD hS
      have hw := hs4 l2_4 l3_4 hI
      refine lv_iload_n hx hb d_H_heldInAll_4 rfl (lv_at hl 3 rfl) ?_
      refine lv_bipush (v := 12) hx hb d_H_heldInAll_5 (by decide) ?_
      refine lv_icmp_ge (tgt := 30) hx hb d_H_heldInAll_7 rfl (fun hc => ?_) (fun hc => ?_)
      ·
        have hw := hw.1 hc
        refine lv_iload_n hx hb d_H_heldInAll_30 rfl (lv_at hl 2 rfl) ?_
        exact W.iret (v := l2_4) hx hb hr (fun t ht hW => ⟨⟨l2_4, (), rfl, hw, ⟨by rw [ht]; exact hP, hD⟩⟩, hS.F ht⟩) hS.2.2 d_H_heldInAll_31
      ·
        have hw := hw.2 hc
        refine lv_iload_n hx hb d_H_heldInAll_10 rfl (lv_at hl 2 rfl) ?_
        refine lv_aload_n hx hb d_H_heldInAll_11 rfl (lv_at hl 0 rfl) ?_
        refine va_get (D := (dC, dI)) (ci := 0) (v := .ref a_parts) (C := R_H) (T := F_H) (N := 6) hx hb hts (kx_in in_H) hown hK hP 0 rfl rfl 0 (by decide) (hts _ (kx_w iw_28)) (fun _ h9 => h9) rfl d_H_heldInAll_12 ?_
        refine lv_iload_n hx hb d_H_heldInAll_15 rfl (lv_at hl 3 rfl) ?_
        refine lv_bipush (v := 12) hx hb d_H_heldInAll_16 (by decide) ?_
        refine lv_imul hx hb d_H_heldInAll_18 ?_
        refine lv_iload_n hx hb d_H_heldInAll_19 rfl (lv_at hl 1 rfl) ?_
        refine lv_iadd hx hb d_H_heldInAll_20 ?_
        obtain ⟨hi, hw⟩ := hw
        refine va_iald hx hb hK hP 1 0 rfl rfl hi d_H_heldInAll_21 ?_
        refine lv_iadd hx hb d_H_heldInAll_22 ?_
        refine lv_topi (fun x23 e23 => ?_)
        have hw := hw x23 e23
        refine lv_istore_n (lv' := [(2, .int x23), (0, .ref h0), (1, .int p0), (3, .int l3_4)]) hx hb d_H_heldInAll_23 rfl hl (by decide) rfl (fun ls hl => ?_)
        refine lv_iinc (v := (l3_4 + 1)) (lv' := [(3, .int (l3_4 + 1)), (2, .int x23), (0, .ref h0), (1, .int p0)]) hx hb d_H_heldInAll_24 hl (k := 3) rfl rfl (by decide) rfl (fun ls hl => ?_)
        refine lv_goto (tgt := 4) hx hb d_H_heldInAll_27 rfl ?_
        have hl := lv_sub hl [2, 3, 1, 0] rfl
        exact ih4 x23 (l3_4 + 1) _ _ _ (Nat.lt_of_lt_of_le hw.2 (Nat.le_of_lt_succ hn4)) hw.1 hl hP hD hS
  exact L4 _ 0 0 _ _ _ (Nat.lt_succ_self _) hi4 hl hP hD hS
/-! ConsolidationDesk$Holdings.lengthenChains(I)I -/
abbrev y_H_lengthenChains : MethodName := ⟨"ConsolidationDesk$Holdings", "lengthenChains", "(I)I"⟩
theorem d_H_lengthenChains_0 : decode prog_2_method_7_code 0 = .ok (.iload_n 1, 1) := by decide +kernel
theorem d_H_lengthenChains_1 : decode prog_2_method_7_code 1 = .ok (.istore_n 2, 1) := by decide +kernel
theorem d_H_lengthenChains_2 : decode prog_2_method_7_code 2 = .ok (.iconst 0, 1) := by decide +kernel
theorem d_H_lengthenChains_3 : decode prog_2_method_7_code 3 = .ok (.istore_n 3, 1) := by decide +kernel
theorem d_H_lengthenChains_4 : decode prog_2_method_7_code 4 = .ok (.iload_n 3, 1) := by decide +kernel
theorem d_H_lengthenChains_5 : decode prog_2_method_7_code 5 = .ok (.bipush 12, 2) := by decide +kernel
theorem d_H_lengthenChains_7 : decode prog_2_method_7_code 7 = .ok (.if_icmp .ge 78, 3) := by decide +kernel
theorem d_H_lengthenChains_10 : decode prog_2_method_7_code 10 = .ok (.iconst 0, 1) := by decide +kernel
theorem d_H_lengthenChains_11 : decode prog_2_method_7_code 11 = .ok (.istore 4, 2) := by decide +kernel
theorem d_H_lengthenChains_13 : decode prog_2_method_7_code 13 = .ok (.iload 4, 2) := by decide +kernel
theorem d_H_lengthenChains_15 : decode prog_2_method_7_code 15 = .ok (.bipush 12, 2) := by decide +kernel
theorem d_H_lengthenChains_17 : decode prog_2_method_7_code 17 = .ok (.if_icmp .ge 62, 3) := by decide +kernel
theorem d_H_lengthenChains_20 : decode prog_2_method_7_code 20 = .ok (.aload_n 0, 1) := by decide +kernel
theorem d_H_lengthenChains_21 : decode prog_2_method_7_code 21 = .ok (.getfield 15, 3) := by decide +kernel
theorem d_H_lengthenChains_24 : decode prog_2_method_7_code 24 = .ok (.iload_n 3, 1) := by decide +kernel
theorem d_H_lengthenChains_25 : decode prog_2_method_7_code 25 = .ok (.iaload, 1) := by decide +kernel
theorem d_H_lengthenChains_26 : decode prog_2_method_7_code 26 = .ok (.iconst 1, 1) := by decide +kernel
theorem d_H_lengthenChains_27 : decode prog_2_method_7_code 27 = .ok (.iadd, 1) := by decide +kernel
theorem d_H_lengthenChains_28 : decode prog_2_method_7_code 28 = .ok (.istore 5, 2) := by decide +kernel
theorem d_H_lengthenChains_30 : decode prog_2_method_7_code 30 = .ok (.aload_n 0, 1) := by decide +kernel
theorem d_H_lengthenChains_31 : decode prog_2_method_7_code 31 = .ok (.getfield 9, 3) := by decide +kernel
theorem d_H_lengthenChains_34 : decode prog_2_method_7_code 34 = .ok (.iload_n 3, 1) := by decide +kernel
theorem d_H_lengthenChains_35 : decode prog_2_method_7_code 35 = .ok (.bipush 12, 2) := by decide +kernel
theorem d_H_lengthenChains_37 : decode prog_2_method_7_code 37 = .ok (.imul, 1) := by decide +kernel
theorem d_H_lengthenChains_38 : decode prog_2_method_7_code 38 = .ok (.iload 4, 2) := by decide +kernel
theorem d_H_lengthenChains_40 : decode prog_2_method_7_code 40 = .ok (.iadd, 1) := by decide +kernel
theorem d_H_lengthenChains_41 : decode prog_2_method_7_code 41 = .ok (.iaload, 1) := by decide +kernel
theorem d_H_lengthenChains_42 : decode prog_2_method_7_code 42 = .ok (.ifCond .le 31, 3) := by decide +kernel
theorem d_H_lengthenChains_45 : decode prog_2_method_7_code 45 = .ok (.iload 5, 2) := by decide +kernel
theorem d_H_lengthenChains_47 : decode prog_2_method_7_code 47 = .ok (.aload_n 0, 1) := by decide +kernel
theorem d_H_lengthenChains_48 : decode prog_2_method_7_code 48 = .ok (.getfield 15, 3) := by decide +kernel
theorem d_H_lengthenChains_51 : decode prog_2_method_7_code 51 = .ok (.iload 4, 2) := by decide +kernel
theorem d_H_lengthenChains_53 : decode prog_2_method_7_code 53 = .ok (.iaload, 1) := by decide +kernel
theorem d_H_lengthenChains_54 : decode prog_2_method_7_code 54 = .ok (.if_icmp .le 19, 3) := by decide +kernel
theorem d_H_lengthenChains_57 : decode prog_2_method_7_code 57 = .ok (.aload_n 0, 1) := by decide +kernel
theorem d_H_lengthenChains_58 : decode prog_2_method_7_code 58 = .ok (.getfield 15, 3) := by decide +kernel
theorem d_H_lengthenChains_61 : decode prog_2_method_7_code 61 = .ok (.iload 4, 2) := by decide +kernel
theorem d_H_lengthenChains_63 : decode prog_2_method_7_code 63 = .ok (.iload 5, 2) := by decide +kernel
theorem d_H_lengthenChains_65 : decode prog_2_method_7_code 65 = .ok (.iastore, 1) := by decide +kernel
theorem d_H_lengthenChains_66 : decode prog_2_method_7_code 66 = .ok (.iload_n 2, 1) := by decide +kernel
theorem d_H_lengthenChains_67 : decode prog_2_method_7_code 67 = .ok (.iload 5, 2) := by decide +kernel
theorem d_H_lengthenChains_69 : decode prog_2_method_7_code 69 = .ok (.invokestatic 57, 3) := by decide +kernel
theorem d_H_lengthenChains_72 : decode prog_2_method_7_code 72 = .ok (.istore_n 2, 1) := by decide +kernel
theorem d_H_lengthenChains_73 : decode prog_2_method_7_code 73 = .ok (.iinc 4 1, 3) := by decide +kernel
theorem d_H_lengthenChains_76 : decode prog_2_method_7_code 76 = .ok (.goto (-63), 3) := by decide +kernel
theorem d_H_lengthenChains_79 : decode prog_2_method_7_code 79 = .ok (.iinc 3 1, 3) := by decide +kernel
theorem d_H_lengthenChains_82 : decode prog_2_method_7_code 82 = .ok (.goto (-78), 3) := by decide +kernel
theorem d_H_lengthenChains_85 : decode prog_2_method_7_code 85 = .ok (.iload_n 2, 1) := by decide +kernel
theorem d_H_lengthenChains_86 : decode prog_2_method_7_code 86 = .ok (.ireturn, 1) := by decide +kernel
abbrev WS_H_lengthenChains (cI cL cZ : ClassId)  (h0 a_parts a_chainLengths a_underControl a_shares a_chainShares a_longerChainShares : Nat) (v_parts : (Nat → Int32)) (v_chainLengths : (Nat → Int32)) : va_W := [(h0, .inr (0, [.ref a_parts, .ref a_chainLengths, .ref a_underControl, .ref a_shares, .ref a_chainShares, .ref a_longerChainShares])), (a_parts, .inl (cI, 144, .inl v_parts)), (a_chainLengths, .inl (cI, 12, .inl v_chainLengths))]
def wp_H_lengthenChains  (p0 : Int32) (v_parts : (Nat → Int32)) (v_chainLengths : (Nat → Int32)) (post : Int32 → (Nat → Int32) → Prop) : Prop := (∃ (I4 : Int32 → Int32 → (Nat → Int32) → Prop) (μ4 : Int32 → Int32 → (Nat → Int32) → Nat), I4 p0 0 v_chainLengths ∧ ∀ (l2_4 : Int32) (l3_4 : Int32) (v_chainLengths_4 : (Nat → Int32)), I4 l2_4 l3_4 v_chainLengths_4 → ((12 ≤ l3_4 → post l2_4 v_chainLengths_4) ∧ (¬ 12 ≤ l3_4 → (∃ (I13 : Int32 → Int32 → (Nat → Int32) → Prop) (μ13 : Int32 → Int32 → (Nat → Int32) → Nat), I13 l2_4 0 v_chainLengths_4 ∧ ∀ (l2_13 : Int32) (l4_13 : Int32) (v_chainLengths_13 : (Nat → Int32)), I13 l2_13 l4_13 v_chainLengths_13 → ((12 ≤ l4_13 → I4 l2_13 (l3_4 + 1) v_chainLengths_13 ∧ μ4 l2_13 (l3_4 + 1) v_chainLengths_13 < μ4 l2_4 l3_4 v_chainLengths_4) ∧ (¬ 12 ≤ l4_13 → (vp_in l3_4 12 ∧ (∀ x28 : Int32, x28 = ((v_chainLengths_13 l3_4.toNatClampNeg) + 1) → (vp_in ((l3_4 * 12) + l4_13) 144 ∧ (((v_parts (Int32.toNatClampNeg ((l3_4 * 12) + l4_13))) ≤ 0 → I13 l2_13 (l4_13 + 1) v_chainLengths_13 ∧ μ13 l2_13 (l4_13 + 1) v_chainLengths_13 < μ13 l2_13 l4_13 v_chainLengths_13) ∧ (¬ (v_parts (Int32.toNatClampNeg ((l3_4 * 12) + l4_13))) ≤ 0 → (vp_in l4_13 12 ∧ ((x28 ≤ (v_chainLengths_13 l4_13.toNatClampNeg) → I13 l2_13 (l4_13 + 1) v_chainLengths_13 ∧ μ13 l2_13 (l4_13 + 1) v_chainLengths_13 < μ13 l2_13 l4_13 v_chainLengths_13) ∧ (¬ x28 ≤ (v_chainLengths_13 l4_13.toNatClampNeg) → (vp_in l4_13 12 ∧ (∀ x72 : Int32, x72 = (if l2_13 < x28 then x28 else l2_13) → I13 x72 (l4_13 + 1) (upd v_chainLengths_13 l4_13.toNatClampNeg x28) ∧ μ13 x72 (l4_13 + 1) (upd v_chainLengths_13 l4_13.toNatClampNeg x28) < μ13 l2_13 l4_13 v_chainLengths_13))))))))))))))))
abbrev ws_H_lengthenChains : List Cond := .code y_H_lengthenChains prog_2_method_7_code 6 (some .int) :: kxW
abbrev rm_H_lengthenChains : Room := { frames := 1, cells := 0, slots := 0, locals := 60 }
abbrev QC_H_lengthenChains (dC : Nat → ClassId) (dI : Nat → Nat → Nat) (cI cL cZ : ClassId) (A : Nat → Prop)  (h0 a_parts a_chainLengths a_underControl a_shares a_chainShares a_longerChainShares : Nat) (v_parts : (Nat → Int32)) (v_chainLengths : (Nat → Int32)) (post : Int32 → (Nat → Int32) → Prop) : Array Value → State → Outcome → State → Prop := va_Qi post (fun (u : (Nat → Int32)) t => kx_B (dC, dI) classes A (WS_H_lengthenChains cI cL cZ h0 a_parts a_chainLengths a_underControl a_shares a_chainShares a_longerChainShares v_parts u) t) A
set_option maxHeartbeats 4000000 in
set_option maxRecDepth 100000 in
theorem c_H_lengthenChains (l : Launch) (dC : Nat → ClassId) (dI : Nat → Nat → Nat) (cI cL cZ : ClassId)  (h0 a_parts a_chainLengths a_underControl a_shares a_chainShares a_longerChainShares : Nat) (v_parts : (Nat → Int32)) (v_chainLengths : (Nat → Int32)) (sz : Nat) (p0 : Int32) {post : Int32 → (Nat → Int32) → Prop} (hw : wp_H_lengthenChains p0 v_parts v_chainLengths post) : Met l y_H_lengthenChains ws_H_lengthenChains rm_H_lengthenChains (kx_Pc (dC, dI) classes (kx_T cI cL cZ) (WS_H_lengthenChains cI cL cZ h0 a_parts a_chainLengths a_underControl a_shares a_chainShares a_longerChainShares v_parts v_chainLengths) sz [.ref h0, .int p0]) (QC_H_lengthenChains dC dI cI cL cZ (va_A (WS_H_lengthenChains cI cL cZ h0 a_parts a_chainLengths a_underControl a_shares a_chainShares a_longerChainShares v_parts v_chainLengths) sz) h0 a_parts a_chainLengths a_underControl a_shares a_chainShares a_longerChainShares v_parts v_chainLengths post) 0 0 (va_A (WS_H_lengthenChains cI cL cZ h0 a_parts a_chainLengths a_underControl a_shares a_chainShares a_longerChainShares v_parts v_chainLengths) sz) := by
  refine Met.ofW (cc := prog_2_method_7_code) (maxL := 6) (ret := (some .int)) (by decide) rfl ?_
  intro p e s m args below meth c s₁ B hml hv
  obtain ⟨rfl, hsz, hP, hK, hD0, hN⟩ := hv
  have hx := B.exec
  have hb := B.bytes
  have hr := B.returns
  have hts := atoms_spec (ws := ws_H_lengthenChains) B.pre
  have hown : s.vm.findClass R_H = some m.cls := findClass_of_methodNamed B.named
  have hlocks := B.notSynchronized
  subst hsz
  have hD := hD0.self (sz := s.heap.size)
  generalize hAe : va_A (WS_H_lengthenChains cI cL cZ h0 a_parts a_chainLengths a_underControl a_shares a_chainShares a_longerChainShares v_parts v_chainLengths) s.heap.size = A at hD ⊢
  have hA : ∀ q : Nat, s.heap.size ≤ q → A q := fun q h => by rw [← hAe]; exact Or.inr h
  have hS : va_S A s.heap s.heap [] := va_S.rf
  have hP : va_P (dC, dI) classes (WS_H_lengthenChains cI cL cZ h0 a_parts a_chainLengths a_underControl a_shares a_chainShares a_longerChainShares v_parts v_chainLengths) s.heap := hP
  have hl := lv_entry ([.ref h0, .int p0]) (n := 6) (Nat.le_of_ble_eq_true rfl)
  rw [lg_entry_eq]
  generalize (lg_sl ([.ref h0, .int p0]) ++ List.replicate (6 - (lg_sl ([.ref h0, .int p0])).length) Slot.unset).toArray = ls at hl ⊢
  have hl : lv_has ls 6 [(0, .ref h0), (1, .int p0)] := hl
  unfold wp_H_lengthenChains at hw
  refine (show ∀ (H : Heap) (locs : List Loc), va_P (dC, dI) classes (WS_H_lengthenChains cI cL cZ h0 a_parts a_chainLengths a_underControl a_shares a_chainShares a_longerChainShares v_parts v_chainLengths) H → va_S A s.heap H locs → W p l e (headSpec ws_H_lengthenChains rm_H_lengthenChains).room s m ([.ref h0, .int p0] : List Value).toArray below meth c H locs 0 0 (MQ below (QC_H_lengthenChains dC dI cI cL cZ A h0 a_parts a_chainLengths a_underControl a_shares a_chainShares a_longerChainShares v_parts v_chainLengths post) ([.ref h0, .int p0] : List Value).toArray s 0 0 A) (F0 m 0 ls []) from ?_) _ _ hP hS
  intro H locs hP hS
  refine lv_iload_n hx hb d_H_lengthenChains_0 rfl (lv_at hl 1 rfl) ?_
  refine lv_istore_n (lv' := [(2, .int p0), (0, .ref h0), (1, .int p0)]) hx hb d_H_lengthenChains_1 rfl hl (by decide) rfl (fun ls hl => ?_)
  refine lv_iconst (v := 0) hx hb d_H_lengthenChains_2 (by decide) ?_
  refine lv_istore_n (lv' := [(3, .int 0), (2, .int p0), (0, .ref h0), (1, .int p0)]) hx hb d_H_lengthenChains_3 rfl hl (by decide) rfl (fun ls hl => ?_)
  have hl := lv_sub hl [2, 3, 1, 0] rfl
  obtain ⟨I4, μ4, hi4, hs4⟩ := hw
  have L4 : ∀ (n : Nat) (l2_4 : Int32) (l3_4 : Int32) (v_chainLengths_4 : (Nat → Int32)) (H : Heap) (locs : List Loc) (ls : Array Slot), μ4 l2_4 l3_4 v_chainLengths_4 < n → I4 l2_4 l3_4 v_chainLengths_4 → lv_has ls 6 [(0, .ref h0), (1, .int p0), (2, .int l2_4), (3, .int l3_4)] → va_P (dC, dI) classes (WS_H_lengthenChains cI cL cZ h0 a_parts a_chainLengths a_underControl a_shares a_chainShares a_longerChainShares v_parts v_chainLengths_4) H → va_D A (WS_H_lengthenChains cI cL cZ h0 a_parts a_chainLengths a_underControl a_shares a_chainShares a_longerChainShares v_parts v_chainLengths_4) → va_S A s.heap H locs → W p l e (headSpec ws_H_lengthenChains rm_H_lengthenChains).room s m ([.ref h0, .int p0] : List Value).toArray below meth c H locs 0 0 (MQ below (QC_H_lengthenChains dC dI cI cL cZ A h0 a_parts a_chainLengths a_underControl a_shares a_chainShares a_longerChainShares v_parts v_chainLengths post) ([.ref h0, .int p0] : List Value).toArray s 0 0 A) (F0 m 4 ls []) := by
    intro n
    induction n with
    | zero => intro l2_4 l3_4 v_chainLengths_4 H locs ls hn; exact absurd hn (Nat.not_lt_zero _)
    | succ n ih4 =>
      intro l2_4 l3_4 v_chainLengths_4 H locs ls hn4 hI hl hP hD hS
      have hw := hs4 l2_4 l3_4 v_chainLengths_4 hI
      refine lv_iload_n hx hb d_H_lengthenChains_4 rfl (lv_at hl 3 rfl) ?_
      refine lv_bipush (v := 12) hx hb d_H_lengthenChains_5 (by decide) ?_
      refine lv_icmp_ge (tgt := 85) hx hb d_H_lengthenChains_7 rfl (fun hc => ?_) (fun hc => ?_)
      ·
        have hw := hw.1 hc
        refine lv_iload_n hx hb d_H_lengthenChains_85 rfl (lv_at hl 2 rfl) ?_
        exact W.iret (v := l2_4) hx hb hr (fun t ht hW => ⟨⟨l2_4, v_chainLengths_4, rfl, hw, ⟨by rw [ht]; exact hP, hD⟩⟩, hS.F ht⟩) hS.2.2 d_H_lengthenChains_86
      ·
        have hw := hw.2 hc
        refine lv_iconst (v := 0) hx hb d_H_lengthenChains_10 (by decide) ?_
        refine lv_istore (lv' := [(4, .int 0), (0, .ref h0), (1, .int p0), (2, .int l2_4), (3, .int l3_4)]) hx hb d_H_lengthenChains_11 hl (by decide) rfl (fun ls hl => ?_)
        have hl := lv_sub hl [1, 2, 3, 4, 0] rfl
        obtain ⟨I13, μ13, hi13, hs13⟩ := hw
        have L13 : ∀ (n : Nat) (l2_13 : Int32) (l4_13 : Int32) (v_chainLengths_13 : (Nat → Int32)) (H : Heap) (locs : List Loc) (ls : Array Slot), μ13 l2_13 l4_13 v_chainLengths_13 < n → I13 l2_13 l4_13 v_chainLengths_13 → lv_has ls 6 [(0, .ref h0), (1, .int p0), (2, .int l2_13), (3, .int l3_4), (4, .int l4_13)] → va_P (dC, dI) classes (WS_H_lengthenChains cI cL cZ h0 a_parts a_chainLengths a_underControl a_shares a_chainShares a_longerChainShares v_parts v_chainLengths_13) H → va_D A (WS_H_lengthenChains cI cL cZ h0 a_parts a_chainLengths a_underControl a_shares a_chainShares a_longerChainShares v_parts v_chainLengths_13) → va_S A s.heap H locs → W p l e (headSpec ws_H_lengthenChains rm_H_lengthenChains).room s m ([.ref h0, .int p0] : List Value).toArray below meth c H locs 0 0 (MQ below (QC_H_lengthenChains dC dI cI cL cZ A h0 a_parts a_chainLengths a_underControl a_shares a_chainShares a_longerChainShares v_parts v_chainLengths post) ([.ref h0, .int p0] : List Value).toArray s 0 0 A) (F0 m 13 ls []) := by
          intro n
          induction n with
          | zero => intro l2_13 l4_13 v_chainLengths_13 H locs ls hn; exact absurd hn (Nat.not_lt_zero _)
          | succ n ih13 =>
            intro l2_13 l4_13 v_chainLengths_13 H locs ls hn13 hI hl hP hD hS
            have hw := hs13 l2_13 l4_13 v_chainLengths_13 hI
            refine lv_iload hx hb d_H_lengthenChains_13 (lv_at hl 4 rfl) ?_
            refine lv_bipush (v := 12) hx hb d_H_lengthenChains_15 (by decide) ?_
            refine lv_icmp_ge (tgt := 79) hx hb d_H_lengthenChains_17 rfl (fun hc => ?_) (fun hc => ?_)
            ·
              have hw := hw.1 hc
              refine lv_iinc (v := (l3_4 + 1)) (lv' := [(3, .int (l3_4 + 1)), (0, .ref h0), (1, .int p0), (2, .int l2_13), (4, .int l4_13)]) hx hb d_H_lengthenChains_79 hl (k := 3) rfl rfl (by decide) rfl (fun ls hl => ?_)
              refine lv_goto (tgt := 4) hx hb d_H_lengthenChains_82 rfl ?_
              have hl := lv_sub hl [1, 2, 3, 0] rfl
              exact ih4 l2_13 (l3_4 + 1) v_chainLengths_13 _ _ _ (Nat.lt_of_lt_of_le hw.2 (Nat.le_of_lt_succ hn4)) hw.1 hl hP hD hS
            ·
              have hw := hw.2 hc
              refine lv_aload_n hx hb d_H_lengthenChains_20 rfl (lv_at hl 0 rfl) ?_
              refine va_get (D := (dC, dI)) (ci := 0) (v := .ref a_chainLengths) (C := R_H) (T := F_H) (N := 6) hx hb hts (kx_in in_H) hown hK hP 0 rfl rfl 1 (by decide) (hts _ (kx_w iw_29)) (fun _ h9 => h9) rfl d_H_lengthenChains_21 ?_
              refine lv_iload_n hx hb d_H_lengthenChains_24 rfl (lv_at hl 3 rfl) ?_
              obtain ⟨hi, hw⟩ := hw
              refine va_iald hx hb hK hP 2 0 rfl rfl hi d_H_lengthenChains_25 ?_
              refine lv_iconst (v := 1) hx hb d_H_lengthenChains_26 (by decide) ?_
              refine lv_iadd hx hb d_H_lengthenChains_27 ?_
              refine lv_topi (fun x28 e28 => ?_)
              have hw := hw x28 e28
              refine lv_istore (lv' := [(5, .int x28), (0, .ref h0), (1, .int p0), (2, .int l2_13), (3, .int l3_4), (4, .int l4_13)]) hx hb d_H_lengthenChains_28 hl (by decide) rfl (fun ls hl => ?_)
              refine lv_aload_n hx hb d_H_lengthenChains_30 rfl (lv_at hl 1 rfl) ?_
              refine va_get (D := (dC, dI)) (ci := 0) (v := .ref a_parts) (C := R_H) (T := F_H) (N := 6) hx hb hts (kx_in in_H) hown hK hP 0 rfl rfl 0 (by decide) (hts _ (kx_w iw_28)) (fun _ h9 => h9) rfl d_H_lengthenChains_31 ?_
              refine lv_iload_n hx hb d_H_lengthenChains_34 rfl (lv_at hl 4 rfl) ?_
              refine lv_bipush (v := 12) hx hb d_H_lengthenChains_35 (by decide) ?_
              refine lv_imul hx hb d_H_lengthenChains_37 ?_
              refine lv_iload hx hb d_H_lengthenChains_38 (lv_at hl 5 rfl) ?_
              refine lv_iadd hx hb d_H_lengthenChains_40 ?_
              obtain ⟨hi, hw⟩ := hw
              refine va_iald hx hb hK hP 1 0 rfl rfl hi d_H_lengthenChains_41 ?_
              refine lv_if_le (tgt := 73) hx hb d_H_lengthenChains_42 rfl (fun hc => ?_) (fun hc => ?_)
              ·
                have hw := hw.1 hc
                refine lv_iinc (v := (l4_13 + 1)) (lv' := [(4, .int (l4_13 + 1)), (5, .int x28), (0, .ref h0), (1, .int p0), (2, .int l2_13), (3, .int l3_4)]) hx hb d_H_lengthenChains_73 hl (k := 5) rfl rfl (by decide) rfl (fun ls hl => ?_)
                refine lv_goto (tgt := 13) hx hb d_H_lengthenChains_76 rfl ?_
                have hl := lv_sub hl [2, 3, 4, 5, 0] rfl
                exact ih13 l2_13 (l4_13 + 1) v_chainLengths_13 _ _ _ (Nat.lt_of_lt_of_le hw.2 (Nat.le_of_lt_succ hn13)) hw.1 hl hP hD hS
              ·
                have hw := hw.2 hc
                refine lv_iload hx hb d_H_lengthenChains_45 (lv_at hl 0 rfl) ?_
                refine lv_aload_n hx hb d_H_lengthenChains_47 rfl (lv_at hl 1 rfl) ?_
                refine va_get (D := (dC, dI)) (ci := 0) (v := .ref a_chainLengths) (C := R_H) (T := F_H) (N := 6) hx hb hts (kx_in in_H) hown hK hP 0 rfl rfl 1 (by decide) (hts _ (kx_w iw_29)) (fun _ h9 => h9) rfl d_H_lengthenChains_48 ?_
                refine lv_iload hx hb d_H_lengthenChains_51 (lv_at hl 5 rfl) ?_
                obtain ⟨hi, hw⟩ := hw
                refine va_iald hx hb hK hP 2 0 rfl rfl hi d_H_lengthenChains_53 ?_
                refine lv_icmp_le (tgt := 73) hx hb d_H_lengthenChains_54 rfl (fun hc => ?_) (fun hc => ?_)
                ·
                  have hw := hw.1 hc
                  refine lv_iinc (v := (l4_13 + 1)) (lv' := [(4, .int (l4_13 + 1)), (5, .int x28), (0, .ref h0), (1, .int p0), (2, .int l2_13), (3, .int l3_4)]) hx hb d_H_lengthenChains_73 hl (k := 5) rfl rfl (by decide) rfl (fun ls hl => ?_)
                  refine lv_goto (tgt := 13) hx hb d_H_lengthenChains_76 rfl ?_
                  have hl := lv_sub hl [2, 3, 4, 5, 0] rfl
                  exact ih13 l2_13 (l4_13 + 1) v_chainLengths_13 _ _ _ (Nat.lt_of_lt_of_le hw.2 (Nat.le_of_lt_succ hn13)) hw.1 hl hP hD hS
                ·
                  have hw := hw.2 hc
                  refine lv_aload_n hx hb d_H_lengthenChains_57 rfl (lv_at hl 1 rfl) ?_
                  refine va_get (D := (dC, dI)) (ci := 0) (v := .ref a_chainLengths) (C := R_H) (T := F_H) (N := 6) hx hb hts (kx_in in_H) hown hK hP 0 rfl rfl 1 (by decide) (hts _ (kx_w iw_29)) (fun _ h9 => h9) rfl d_H_lengthenChains_58 ?_
                  refine lv_iload hx hb d_H_lengthenChains_61 (lv_at hl 5 rfl) ?_
                  refine lv_iload hx hb d_H_lengthenChains_63 (lv_at hl 0 rfl) ?_
                  obtain ⟨hi, hw⟩ := hw
                  refine va_iast hx hb hK hP hD hS 2 0 rfl rfl hi d_H_lengthenChains_65 (fun H locs hP hD hS => ?_)
                  have hP : va_P (dC, dI) classes (WS_H_lengthenChains cI cL cZ h0 a_parts a_chainLengths a_underControl a_shares a_chainShares a_longerChainShares v_parts (upd v_chainLengths_13 l4_13.toNatClampNeg x28)) H := hP
                  have hD : va_D A (WS_H_lengthenChains cI cL cZ h0 a_parts a_chainLengths a_underControl a_shares a_chainShares a_longerChainShares v_parts (upd v_chainLengths_13 l4_13.toNatClampNeg x28)) := hD
                  refine lv_iload_n hx hb d_H_lengthenChains_66 rfl (lv_at hl 3 rfl) ?_
                  refine lv_iload hx hb d_H_lengthenChains_67 (lv_at hl 0 rfl) ?_
                  refine va_mmax hx hb (by rw [hml]; exact hl.1.symm) hown (hts _ (kx_w iw_156)) (hts _ (kx_w iw_157)) (hts _ (kx_w iw_6)) (hts _ (kx_w iw_158)) (Nat.le_of_ble_eq_true rfl) (Nat.le_of_ble_eq_true rfl) (Nat.le_of_ble_eq_true rfl) (Nat.le_of_ble_eq_true rfl) d_H_lengthenChains_69 ?_
                  refine lv_topi (fun x72 e72 => ?_)
                  have hw := hw x72 e72
                  refine lv_istore_n (lv' := [(2, .int x72), (5, .int x28), (0, .ref h0), (1, .int p0), (3, .int l3_4), (4, .int l4_13)]) hx hb d_H_lengthenChains_72 rfl hl (by decide) rfl (fun ls hl => ?_)
                  refine lv_iinc (v := (l4_13 + 1)) (lv' := [(4, .int (l4_13 + 1)), (2, .int x72), (5, .int x28), (0, .ref h0), (1, .int p0), (3, .int l3_4)]) hx hb d_H_lengthenChains_73 hl (k := 5) rfl rfl (by decide) rfl (fun ls hl => ?_)
                  refine lv_goto (tgt := 13) hx hb d_H_lengthenChains_76 rfl ?_
                  have hl := lv_sub hl [3, 4, 1, 5, 0] rfl
                  exact ih13 x72 (l4_13 + 1) (upd v_chainLengths_13 l4_13.toNatClampNeg x28) _ _ _ (Nat.lt_of_lt_of_le hw.2 (Nat.le_of_lt_succ hn13)) hw.1 hl hP hD hS
        exact L13 _ l2_4 0 v_chainLengths_4 _ _ _ (Nat.lt_succ_self _) hi13 hl hP hD hS
  exact L4 _ p0 0 v_chainLengths _ _ _ (Nat.lt_succ_self _) hi4 hl hP hD hS
/-! ConsolidationDesk$Holdings.hasTooLongChain()Z -/
abbrev y_H_hasTooLongChain : MethodName := ⟨"ConsolidationDesk$Holdings", "hasTooLongChain", "()Z"⟩
theorem d_H_hasTooLongChain_0 : decode prog_2_method_6_code 0 = .ok (.aload_n 0, 1) := by decide +kernel
theorem d_H_hasTooLongChain_1 : decode prog_2_method_6_code 1 = .ok (.getfield 15, 3) := by decide +kernel
theorem d_H_hasTooLongChain_4 : decode prog_2_method_6_code 4 = .ok (.iconst 0, 1) := by decide +kernel
theorem d_H_hasTooLongChain_5 : decode prog_2_method_6_code 5 = .ok (.invokestatic 48, 3) := by decide +kernel
theorem d_H_hasTooLongChain_8 : decode prog_2_method_6_code 8 = .ok (.iconst 0, 1) := by decide +kernel
theorem d_H_hasTooLongChain_9 : decode prog_2_method_6_code 9 = .ok (.istore_n 1, 1) := by decide +kernel
theorem d_H_hasTooLongChain_10 : decode prog_2_method_6_code 10 = .ok (.iconst 0, 1) := by decide +kernel
theorem d_H_hasTooLongChain_11 : decode prog_2_method_6_code 11 = .ok (.istore_n 2, 1) := by decide +kernel
theorem d_H_hasTooLongChain_12 : decode prog_2_method_6_code 12 = .ok (.iload_n 2, 1) := by decide +kernel
theorem d_H_hasTooLongChain_13 : decode prog_2_method_6_code 13 = .ok (.iconst 4, 1) := by decide +kernel
theorem d_H_hasTooLongChain_14 : decode prog_2_method_6_code 14 = .ok (.if_icmp .gt 15, 3) := by decide +kernel
theorem d_H_hasTooLongChain_17 : decode prog_2_method_6_code 17 = .ok (.aload_n 0, 1) := by decide +kernel
theorem d_H_hasTooLongChain_18 : decode prog_2_method_6_code 18 = .ok (.iload_n 1, 1) := by decide +kernel
theorem d_H_hasTooLongChain_19 : decode prog_2_method_6_code 19 = .ok (.invokevirtual 54, 3) := by decide +kernel
theorem d_H_hasTooLongChain_22 : decode prog_2_method_6_code 22 = .ok (.istore_n 1, 1) := by decide +kernel
theorem d_H_hasTooLongChain_23 : decode prog_2_method_6_code 23 = .ok (.iinc 2 1, 3) := by decide +kernel
theorem d_H_hasTooLongChain_26 : decode prog_2_method_6_code 26 = .ok (.goto (-14), 3) := by decide +kernel
theorem d_H_hasTooLongChain_29 : decode prog_2_method_6_code 29 = .ok (.iload_n 1, 1) := by decide +kernel
theorem d_H_hasTooLongChain_30 : decode prog_2_method_6_code 30 = .ok (.iconst 4, 1) := by decide +kernel
theorem d_H_hasTooLongChain_31 : decode prog_2_method_6_code 31 = .ok (.if_icmp .le 7, 3) := by decide +kernel
theorem d_H_hasTooLongChain_34 : decode prog_2_method_6_code 34 = .ok (.iconst 1, 1) := by decide +kernel
theorem d_H_hasTooLongChain_35 : decode prog_2_method_6_code 35 = .ok (.goto 4, 3) := by decide +kernel
theorem d_H_hasTooLongChain_38 : decode prog_2_method_6_code 38 = .ok (.iconst 0, 1) := by decide +kernel
theorem d_H_hasTooLongChain_39 : decode prog_2_method_6_code 39 = .ok (.ireturn, 1) := by decide +kernel
abbrev WS_H_hasTooLongChain (cI cL cZ : ClassId)  (h0 a_parts a_chainLengths a_underControl a_shares a_chainShares a_longerChainShares : Nat) (v_parts : (Nat → Int32)) (v_chainLengths : (Nat → Int32)) : va_W := [(h0, .inr (0, [.ref a_parts, .ref a_chainLengths, .ref a_underControl, .ref a_shares, .ref a_chainShares, .ref a_longerChainShares])), (a_parts, .inl (cI, 144, .inl v_parts)), (a_chainLengths, .inl (cI, 12, .inl v_chainLengths))]
def wp_H_hasTooLongChain   (v_parts : (Nat → Int32)) (v_chainLengths : (Nat → Int32)) (post : Int32 → (Nat → Int32) → Prop) : Prop := (wp_A_fillI 12 0 v_chainLengths (fun (u5 : (Nat → Int32)) => (∃ (I12 : Int32 → Int32 → (Nat → Int32) → Prop) (μ12 : Int32 → Int32 → (Nat → Int32) → Nat), I12 0 0 u5 ∧ ∀ (l1_12 : Int32) (l2_12 : Int32) (v_chainLengths_12 : (Nat → Int32)), I12 l1_12 l2_12 v_chainLengths_12 → ((4 < l2_12 → ((l1_12 ≤ 4 → post 0 v_chainLengths_12) ∧ (¬ l1_12 ≤ 4 → post 1 v_chainLengths_12))) ∧ (¬ 4 < l2_12 → (wp_H_lengthenChains l1_12 v_parts v_chainLengths_12 (fun (r19 : Int32) (u19 : (Nat → Int32)) => I12 r19 (l2_12 + 1) u19 ∧ μ12 r19 (l2_12 + 1) u19 < μ12 l1_12 l2_12 v_chainLengths_12)))))))
abbrev ws_H_hasTooLongChain : List Cond := .code y_H_hasTooLongChain prog_2_method_6_code 3 (some .boolean) :: kxW
abbrev rm_H_hasTooLongChain : Room := { frames := 2, cells := 0, slots := 0, locals := 85 }
abbrev QC_H_hasTooLongChain (dC : Nat → ClassId) (dI : Nat → Nat → Nat) (cI cL cZ : ClassId) (A : Nat → Prop)  (h0 a_parts a_chainLengths a_underControl a_shares a_chainShares a_longerChainShares : Nat) (v_parts : (Nat → Int32)) (v_chainLengths : (Nat → Int32)) (post : Int32 → (Nat → Int32) → Prop) : Array Value → State → Outcome → State → Prop := va_Qi post (fun (u : (Nat → Int32)) t => kx_B (dC, dI) classes A (WS_H_hasTooLongChain cI cL cZ h0 a_parts a_chainLengths a_underControl a_shares a_chainShares a_longerChainShares v_parts u) t) A
set_option maxHeartbeats 4000000 in
set_option maxRecDepth 100000 in
theorem c_H_hasTooLongChain (l : Launch) (dC : Nat → ClassId) (dI : Nat → Nat → Nat) (cI cL cZ : ClassId)  (h0 a_parts a_chainLengths a_underControl a_shares a_chainShares a_longerChainShares : Nat) (v_parts : (Nat → Int32)) (v_chainLengths : (Nat → Int32)) (sz : Nat)  {post : Int32 → (Nat → Int32) → Prop} (hw : wp_H_hasTooLongChain v_parts v_chainLengths post) : Met l y_H_hasTooLongChain ws_H_hasTooLongChain rm_H_hasTooLongChain (kx_Pc (dC, dI) classes (kx_T cI cL cZ) (WS_H_hasTooLongChain cI cL cZ h0 a_parts a_chainLengths a_underControl a_shares a_chainShares a_longerChainShares v_parts v_chainLengths) sz [.ref h0]) (QC_H_hasTooLongChain dC dI cI cL cZ (va_A (WS_H_hasTooLongChain cI cL cZ h0 a_parts a_chainLengths a_underControl a_shares a_chainShares a_longerChainShares v_parts v_chainLengths) sz) h0 a_parts a_chainLengths a_underControl a_shares a_chainShares a_longerChainShares v_parts v_chainLengths post) 0 0 (va_A (WS_H_hasTooLongChain cI cL cZ h0 a_parts a_chainLengths a_underControl a_shares a_chainShares a_longerChainShares v_parts v_chainLengths) sz) := by
  refine Met.ofW (cc := prog_2_method_6_code) (maxL := 3) (ret := (some .boolean)) (by decide) rfl ?_
  intro p e s m args below meth c s₁ B hml hv
  obtain ⟨rfl, hsz, hP, hK, hD0, hN⟩ := hv
  have hx := B.exec
  have hb := B.bytes
  have hr := B.returns
  have hts := atoms_spec (ws := ws_H_hasTooLongChain) B.pre
  have hown : s.vm.findClass R_H = some m.cls := findClass_of_methodNamed B.named
  have hlocks := B.notSynchronized
  subst hsz
  have hD := hD0.self (sz := s.heap.size)
  generalize hAe : va_A (WS_H_hasTooLongChain cI cL cZ h0 a_parts a_chainLengths a_underControl a_shares a_chainShares a_longerChainShares v_parts v_chainLengths) s.heap.size = A at hD ⊢
  have hA : ∀ q : Nat, s.heap.size ≤ q → A q := fun q h => by rw [← hAe]; exact Or.inr h
  have hS : va_S A s.heap s.heap [] := va_S.rf
  have hP : va_P (dC, dI) classes (WS_H_hasTooLongChain cI cL cZ h0 a_parts a_chainLengths a_underControl a_shares a_chainShares a_longerChainShares v_parts v_chainLengths) s.heap := hP
  have hl := lv_entry ([.ref h0]) (n := 3) (Nat.le_of_ble_eq_true rfl)
  rw [lg_entry_eq]
  generalize (lg_sl ([.ref h0]) ++ List.replicate (3 - (lg_sl ([.ref h0])).length) Slot.unset).toArray = ls at hl ⊢
  have hl : lv_has ls 3 [(0, .ref h0)] := hl
  unfold wp_H_hasTooLongChain at hw
  refine (show ∀ (H : Heap) (locs : List Loc), va_P (dC, dI) classes (WS_H_hasTooLongChain cI cL cZ h0 a_parts a_chainLengths a_underControl a_shares a_chainShares a_longerChainShares v_parts v_chainLengths) H → va_S A s.heap H locs → W p l e (headSpec ws_H_hasTooLongChain rm_H_hasTooLongChain).room s m ([.ref h0] : List Value).toArray below meth c H locs 0 0 (MQ below (QC_H_hasTooLongChain dC dI cI cL cZ A h0 a_parts a_chainLengths a_underControl a_shares a_chainShares a_longerChainShares v_parts v_chainLengths post) ([.ref h0] : List Value).toArray s 0 0 A) (F0 m 0 ls []) from ?_) _ _ hP hS
  intro H locs hP hS
  refine lv_aload_n hx hb d_H_hasTooLongChain_0 rfl (lv_at hl 0 rfl) ?_
  refine va_get (D := (dC, dI)) (ci := 0) (v := .ref a_chainLengths) (C := R_H) (T := F_H) (N := 6) hx hb hts (kx_in in_H) hown hK hP 0 rfl rfl 1 (by decide) (hts _ (kx_w iw_29)) (fun _ h9 => h9) rfl d_H_hasTooLongChain_1 ?_
  refine lv_iconst (v := 0) hx hb d_H_hasTooLongChain_4 (by decide) ?_
  refine kx_callv (ws' := fun u5 => (WS_H_hasTooLongChain cI cL cZ h0 a_parts a_chainLengths a_underControl a_shares a_chainShares a_longerChainShares v_parts u5)) (va_runS (As := [.ref a_chainLengths, .int 0]) (rest := []) ⟨hx, hb, hml, hown, hts⟩ (c_A_fillI l dC dI cI cL cZ 12 a_chainLengths v_chainLengths H.size 0 hw) ⟨(callB_of 2 hts (kx_good iw_151) rfl rfl rfl (hts _ (kx_w iw_5)) (hts _ (kx_w iw_149)) (by decide +kernel) ⟨Nat.le_of_ble_eq_true rfl, Nat.le_of_ble_eq_true rfl⟩), (hts _ (kx_w iw_150))⟩ (kx_preS hN hK hP hD [2] (by decide) rfl) rfl rfl hl.1 rfl (lv_room (Nat.le_of_ble_eq_true rfl)) d_H_hasTooLongChain_5 ⟨Nat.le_of_ble_eq_true rfl, Nat.le_of_ble_eq_true rfl⟩) hP hD hS hA [2] [0, 1] rfl rfl (by decide) (by decide) [0, 1, 2] (by decide) (fun _ => rfl) (fun u5 H locs hw hP hD hS => ?_)
  have hP : va_P (dC, dI) classes (WS_H_hasTooLongChain cI cL cZ h0 a_parts a_chainLengths a_underControl a_shares a_chainShares a_longerChainShares v_parts u5) H := hP
  have hD : va_D A (WS_H_hasTooLongChain cI cL cZ h0 a_parts a_chainLengths a_underControl a_shares a_chainShares a_longerChainShares v_parts u5) := hD
  refine lv_iconst (v := 0) hx hb d_H_hasTooLongChain_8 (by decide) ?_
  refine lv_istore_n (lv' := [(1, .int 0), (0, .ref h0)]) hx hb d_H_hasTooLongChain_9 rfl hl (by decide) rfl (fun ls hl => ?_)
  refine lv_iconst (v := 0) hx hb d_H_hasTooLongChain_10 (by decide) ?_
  refine lv_istore_n (lv' := [(2, .int 0), (1, .int 0), (0, .ref h0)]) hx hb d_H_hasTooLongChain_11 rfl hl (by decide) rfl (fun ls hl => ?_)
  have hl := lv_sub hl [2, 1, 0] rfl
  obtain ⟨I12, μ12, hi12, hs12⟩ := hw
  have L12 : ∀ (n : Nat) (l1_12 : Int32) (l2_12 : Int32) (v_chainLengths_12 : (Nat → Int32)) (H : Heap) (locs : List Loc) (ls : Array Slot), μ12 l1_12 l2_12 v_chainLengths_12 < n → I12 l1_12 l2_12 v_chainLengths_12 → lv_has ls 3 [(0, .ref h0), (1, .int l1_12), (2, .int l2_12)] → va_P (dC, dI) classes (WS_H_hasTooLongChain cI cL cZ h0 a_parts a_chainLengths a_underControl a_shares a_chainShares a_longerChainShares v_parts v_chainLengths_12) H → va_D A (WS_H_hasTooLongChain cI cL cZ h0 a_parts a_chainLengths a_underControl a_shares a_chainShares a_longerChainShares v_parts v_chainLengths_12) → va_S A s.heap H locs → W p l e (headSpec ws_H_hasTooLongChain rm_H_hasTooLongChain).room s m ([.ref h0] : List Value).toArray below meth c H locs 0 0 (MQ below (QC_H_hasTooLongChain dC dI cI cL cZ A h0 a_parts a_chainLengths a_underControl a_shares a_chainShares a_longerChainShares v_parts v_chainLengths post) ([.ref h0] : List Value).toArray s 0 0 A) (F0 m 12 ls []) := by
    intro n
    induction n with
    | zero => intro l1_12 l2_12 v_chainLengths_12 H locs ls hn; exact absurd hn (Nat.not_lt_zero _)
    | succ n ih12 =>
      intro l1_12 l2_12 v_chainLengths_12 H locs ls hn12 hI hl hP hD hS
      have hw := hs12 l1_12 l2_12 v_chainLengths_12 hI
      refine lv_iload_n hx hb d_H_hasTooLongChain_12 rfl (lv_at hl 2 rfl) ?_
      refine lv_iconst (v := 4) hx hb d_H_hasTooLongChain_13 (by decide) ?_
      refine lv_icmp_gt (tgt := 29) hx hb d_H_hasTooLongChain_14 rfl (fun hc => ?_) (fun hc => ?_)
      ·
        have hw := hw.1 hc
        refine lv_iload_n hx hb d_H_hasTooLongChain_29 rfl (lv_at hl 1 rfl) ?_
        refine lv_iconst (v := 4) hx hb d_H_hasTooLongChain_30 (by decide) ?_
        refine lv_icmp_le (tgt := 38) hx hb d_H_hasTooLongChain_31 rfl (fun hc => ?_) (fun hc => ?_)
        ·
          have hw := hw.1 hc
          refine lv_iconst (v := 0) hx hb d_H_hasTooLongChain_38 (by decide) ?_
          exact W.zret (v := 0) hx hb hr (by decide) (fun t ht hW => ⟨⟨0, v_chainLengths_12, rfl, hw, ⟨by rw [ht]; exact hP, hD⟩⟩, hS.F ht⟩) hS.2.2 d_H_hasTooLongChain_39
        ·
          have hw := hw.2 hc
          refine lv_iconst (v := 1) hx hb d_H_hasTooLongChain_34 (by decide) ?_
          refine lv_goto (tgt := 39) hx hb d_H_hasTooLongChain_35 rfl ?_
          exact W.zret (v := 1) hx hb hr (by decide) (fun t ht hW => ⟨⟨1, v_chainLengths_12, rfl, hw, ⟨by rw [ht]; exact hP, hD⟩⟩, hS.F ht⟩) hS.2.2 d_H_hasTooLongChain_39
      ·
        have hw := hw.2 hc
        refine lv_aload_n hx hb d_H_hasTooLongChain_17 rfl (lv_at hl 0 rfl) ?_
        refine lv_iload_n hx hb d_H_hasTooLongChain_18 rfl (lv_at hl 1 rfl) ?_
        refine kx_calli (ws' := fun u19 => (WS_H_hasTooLongChain cI cL cZ h0 a_parts a_chainLengths a_underControl a_shares a_chainShares a_longerChainShares v_parts u19)) (va_runV (As := [.int l1_12]) (rest := []) ⟨hx, hb, hml, hown, hts⟩ (c_H_lengthenChains l dC dI cI cL cZ h0 a_parts a_chainLengths a_underControl a_shares a_chainShares a_longerChainShares v_parts v_chainLengths_12 H.size l1_12 hw) ⟨(callB_of 1 hts (kx_good iw_155) rfl rfl rfl (hts _ (kx_w iw_2)) (hts _ (kx_w iw_152)) (by decide +kernel) ⟨Nat.le_of_ble_eq_true rfl, Nat.le_of_ble_eq_true rfl⟩), (hts _ (kx_w iw_154)), (hts _ (kx_w sl_H_lengthenChains))⟩ (kx_preV hN hK hP hD [0, 1, 2] (by decide) rfl 0 rfl rfl) rfl rfl hl.1 rfl (lv_room (Nat.le_of_ble_eq_true rfl)) d_H_hasTooLongChain_19 ⟨Nat.le_of_ble_eq_true rfl, Nat.le_of_ble_eq_true rfl⟩) hP hD hS hA [0, 1, 2] [] rfl rfl (by decide) (by decide) [0, 1, 2] (by decide) (fun _ => rfl) (fun r19 u19 H locs hw hP hD hS => ?_)
        have hP : va_P (dC, dI) classes (WS_H_hasTooLongChain cI cL cZ h0 a_parts a_chainLengths a_underControl a_shares a_chainShares a_longerChainShares v_parts u19) H := hP
        have hD : va_D A (WS_H_hasTooLongChain cI cL cZ h0 a_parts a_chainLengths a_underControl a_shares a_chainShares a_longerChainShares v_parts u19) := hD
        refine lv_istore_n (lv' := [(1, .int r19), (0, .ref h0), (2, .int l2_12)]) hx hb d_H_hasTooLongChain_22 rfl hl (by decide) rfl (fun ls hl => ?_)
        refine lv_iinc (v := (l2_12 + 1)) (lv' := [(2, .int (l2_12 + 1)), (1, .int r19), (0, .ref h0)]) hx hb d_H_hasTooLongChain_23 hl (k := 2) rfl rfl (by decide) rfl (fun ls hl => ?_)
        refine lv_goto (tgt := 12) hx hb d_H_hasTooLongChain_26 rfl ?_
        have hl := lv_sub hl [2, 1, 0] rfl
        exact ih12 r19 (l2_12 + 1) u19 _ _ _ (Nat.lt_of_lt_of_le hw.2 (Nat.le_of_lt_succ hn12)) hw.1 hl hP hD hS
  exact L12 _ 0 0 u5 _ _ _ (Nat.lt_succ_self _) hi12 hl hP hD hS
/-! ConsolidationDesk$Holdings.heldUnderControl(I)I -/
abbrev y_H_heldUnderControl : MethodName := ⟨"ConsolidationDesk$Holdings", "heldUnderControl", "(I)I"⟩
theorem d_H_heldUnderControl_0 : decode prog_2_method_9_code 0 = .ok (.iconst 0, 1) := by decide +kernel
theorem d_H_heldUnderControl_1 : decode prog_2_method_9_code 1 = .ok (.istore_n 2, 1) := by decide +kernel
theorem d_H_heldUnderControl_2 : decode prog_2_method_9_code 2 = .ok (.iconst 0, 1) := by decide +kernel
theorem d_H_heldUnderControl_3 : decode prog_2_method_9_code 3 = .ok (.istore_n 3, 1) := by decide +kernel
theorem d_H_heldUnderControl_4 : decode prog_2_method_9_code 4 = .ok (.iload_n 3, 1) := by decide +kernel
theorem d_H_heldUnderControl_5 : decode prog_2_method_9_code 5 = .ok (.bipush 12, 2) := by decide +kernel
theorem d_H_heldUnderControl_7 : decode prog_2_method_9_code 7 = .ok (.if_icmp .ge 32, 3) := by decide +kernel
theorem d_H_heldUnderControl_10 : decode prog_2_method_9_code 10 = .ok (.aload_n 0, 1) := by decide +kernel
theorem d_H_heldUnderControl_11 : decode prog_2_method_9_code 11 = .ok (.getfield 18, 3) := by decide +kernel
theorem d_H_heldUnderControl_14 : decode prog_2_method_9_code 14 = .ok (.iload_n 3, 1) := by decide +kernel
theorem d_H_heldUnderControl_15 : decode prog_2_method_9_code 15 = .ok (.baload, 1) := by decide +kernel
theorem d_H_heldUnderControl_16 : decode prog_2_method_9_code 16 = .ok (.ifCond .eq 17, 3) := by decide +kernel
theorem d_H_heldUnderControl_19 : decode prog_2_method_9_code 19 = .ok (.iload_n 2, 1) := by decide +kernel
theorem d_H_heldUnderControl_20 : decode prog_2_method_9_code 20 = .ok (.aload_n 0, 1) := by decide +kernel
theorem d_H_heldUnderControl_21 : decode prog_2_method_9_code 21 = .ok (.getfield 9, 3) := by decide +kernel
theorem d_H_heldUnderControl_24 : decode prog_2_method_9_code 24 = .ok (.iload_n 3, 1) := by decide +kernel
theorem d_H_heldUnderControl_25 : decode prog_2_method_9_code 25 = .ok (.bipush 12, 2) := by decide +kernel
theorem d_H_heldUnderControl_27 : decode prog_2_method_9_code 27 = .ok (.imul, 1) := by decide +kernel
theorem d_H_heldUnderControl_28 : decode prog_2_method_9_code 28 = .ok (.iload_n 1, 1) := by decide +kernel
theorem d_H_heldUnderControl_29 : decode prog_2_method_9_code 29 = .ok (.iadd, 1) := by decide +kernel
theorem d_H_heldUnderControl_30 : decode prog_2_method_9_code 30 = .ok (.iaload, 1) := by decide +kernel
theorem d_H_heldUnderControl_31 : decode prog_2_method_9_code 31 = .ok (.iadd, 1) := by decide +kernel
theorem d_H_heldUnderControl_32 : decode prog_2_method_9_code 32 = .ok (.istore_n 2, 1) := by decide +kernel
theorem d_H_heldUnderControl_33 : decode prog_2_method_9_code 33 = .ok (.iinc 3 1, 3) := by decide +kernel
theorem d_H_heldUnderControl_36 : decode prog_2_method_9_code 36 = .ok (.goto (-32), 3) := by decide +kernel
theorem d_H_heldUnderControl_39 : decode prog_2_method_9_code 39 = .ok (.iload_n 2, 1) := by decide +kernel
theorem d_H_heldUnderControl_40 : decode prog_2_method_9_code 40 = .ok (.ireturn, 1) := by decide +kernel
abbrev WS_H_heldUnderControl (cI cL cZ : ClassId)  (h0 a_parts a_chainLengths a_underControl a_shares a_chainShares a_longerChainShares : Nat) (v_parts : (Nat → Int32)) (v_underControl : (Nat → Int32)) : va_W := [(h0, .inr (0, [.ref a_parts, .ref a_chainLengths, .ref a_underControl, .ref a_shares, .ref a_chainShares, .ref a_longerChainShares])), (a_parts, .inl (cI, 144, .inl v_parts)), (a_underControl, .inl (cZ, 12, .inl v_underControl))]
def wp_H_heldUnderControl  (p0 : Int32) (v_parts : (Nat → Int32)) (v_underControl : (Nat → Int32)) (post : Int32 → Unit → Prop) : Prop := (∃ (I4 : Int32 → Int32 → Prop) (μ4 : Int32 → Int32 → Nat), I4 0 0 ∧ ∀ (l2_4 : Int32) (l3_4 : Int32), I4 l2_4 l3_4 → ((12 ≤ l3_4 → post l2_4 ()) ∧ (¬ 12 ≤ l3_4 → (vp_in l3_4 12 ∧ (((v_underControl l3_4.toNatClampNeg) = 0 → I4 l2_4 (l3_4 + 1) ∧ μ4 l2_4 (l3_4 + 1) < μ4 l2_4 l3_4) ∧ (¬ (v_underControl l3_4.toNatClampNeg) = 0 → (vp_in ((l3_4 * 12) + p0) 144 ∧ (∀ x32 : Int32, x32 = (l2_4 + (v_parts (Int32.toNatClampNeg ((l3_4 * 12) + p0)))) → I4 x32 (l3_4 + 1) ∧ μ4 x32 (l3_4 + 1) < μ4 l2_4 l3_4))))))))
abbrev ws_H_heldUnderControl : List Cond := .code y_H_heldUnderControl prog_2_method_9_code 4 (some .int) :: kxW
abbrev rm_H_heldUnderControl : Room := { frames := 0, cells := 0, slots := 0, locals := 0 }
abbrev QC_H_heldUnderControl (dC : Nat → ClassId) (dI : Nat → Nat → Nat) (cI cL cZ : ClassId) (A : Nat → Prop)  (h0 a_parts a_chainLengths a_underControl a_shares a_chainShares a_longerChainShares : Nat) (v_parts : (Nat → Int32)) (v_underControl : (Nat → Int32)) (post : Int32 → Unit → Prop) : Array Value → State → Outcome → State → Prop := va_Qi post (fun (u : Unit) t => kx_B (dC, dI) classes A (WS_H_heldUnderControl cI cL cZ h0 a_parts a_chainLengths a_underControl a_shares a_chainShares a_longerChainShares v_parts v_underControl) t) A
set_option maxHeartbeats 4000000 in
set_option maxRecDepth 100000 in
theorem c_H_heldUnderControl (l : Launch) (dC : Nat → ClassId) (dI : Nat → Nat → Nat) (cI cL cZ : ClassId)  (h0 a_parts a_chainLengths a_underControl a_shares a_chainShares a_longerChainShares : Nat) (v_parts : (Nat → Int32)) (v_underControl : (Nat → Int32)) (sz : Nat) (p0 : Int32) {post : Int32 → Unit → Prop} (hw : wp_H_heldUnderControl p0 v_parts v_underControl post) : Met l y_H_heldUnderControl ws_H_heldUnderControl rm_H_heldUnderControl (kx_Pc (dC, dI) classes (kx_T cI cL cZ) (WS_H_heldUnderControl cI cL cZ h0 a_parts a_chainLengths a_underControl a_shares a_chainShares a_longerChainShares v_parts v_underControl) sz [.ref h0, .int p0]) (QC_H_heldUnderControl dC dI cI cL cZ (va_A (WS_H_heldUnderControl cI cL cZ h0 a_parts a_chainLengths a_underControl a_shares a_chainShares a_longerChainShares v_parts v_underControl) sz) h0 a_parts a_chainLengths a_underControl a_shares a_chainShares a_longerChainShares v_parts v_underControl post) 0 0 (va_A (WS_H_heldUnderControl cI cL cZ h0 a_parts a_chainLengths a_underControl a_shares a_chainShares a_longerChainShares v_parts v_underControl) sz) := by
  refine Met.ofW (cc := prog_2_method_9_code) (maxL := 4) (ret := (some .int)) (by decide) rfl ?_
  intro p e s m args below meth c s₁ B hml hv
  obtain ⟨rfl, hsz, hP, hK, hD0, hN⟩ := hv
  have hx := B.exec
  have hb := B.bytes
  have hr := B.returns
  have hts := atoms_spec (ws := ws_H_heldUnderControl) B.pre
  have hown : s.vm.findClass R_H = some m.cls := findClass_of_methodNamed B.named
  have hlocks := B.notSynchronized
  subst hsz
  have hD := hD0.self (sz := s.heap.size)
  generalize hAe : va_A (WS_H_heldUnderControl cI cL cZ h0 a_parts a_chainLengths a_underControl a_shares a_chainShares a_longerChainShares v_parts v_underControl) s.heap.size = A at hD ⊢
  have hA : ∀ q : Nat, s.heap.size ≤ q → A q := fun q h => by rw [← hAe]; exact Or.inr h
  have hS : va_S A s.heap s.heap [] := va_S.rf
  have hP : va_P (dC, dI) classes (WS_H_heldUnderControl cI cL cZ h0 a_parts a_chainLengths a_underControl a_shares a_chainShares a_longerChainShares v_parts v_underControl) s.heap := hP
  have hl := lv_entry ([.ref h0, .int p0]) (n := 4) (Nat.le_of_ble_eq_true rfl)
  rw [lg_entry_eq]
  generalize (lg_sl ([.ref h0, .int p0]) ++ List.replicate (4 - (lg_sl ([.ref h0, .int p0])).length) Slot.unset).toArray = ls at hl ⊢
  have hl : lv_has ls 4 [(0, .ref h0), (1, .int p0)] := hl
  unfold wp_H_heldUnderControl at hw
  refine (show ∀ (H : Heap) (locs : List Loc), va_P (dC, dI) classes (WS_H_heldUnderControl cI cL cZ h0 a_parts a_chainLengths a_underControl a_shares a_chainShares a_longerChainShares v_parts v_underControl) H → va_S A s.heap H locs → W p l e (headSpec ws_H_heldUnderControl rm_H_heldUnderControl).room s m ([.ref h0, .int p0] : List Value).toArray below meth c H locs 0 0 (MQ below (QC_H_heldUnderControl dC dI cI cL cZ A h0 a_parts a_chainLengths a_underControl a_shares a_chainShares a_longerChainShares v_parts v_underControl post) ([.ref h0, .int p0] : List Value).toArray s 0 0 A) (F0 m 0 ls []) from ?_) _ _ hP hS
  intro H locs hP hS
  refine lv_iconst (v := 0) hx hb d_H_heldUnderControl_0 (by decide) ?_
  refine lv_istore_n (lv' := [(2, .int 0), (0, .ref h0), (1, .int p0)]) hx hb d_H_heldUnderControl_1 rfl hl (by decide) rfl (fun ls hl => ?_)
  refine lv_iconst (v := 0) hx hb d_H_heldUnderControl_2 (by decide) ?_
  refine lv_istore_n (lv' := [(3, .int 0), (2, .int 0), (0, .ref h0), (1, .int p0)]) hx hb d_H_heldUnderControl_3 rfl hl (by decide) rfl (fun ls hl => ?_)
  have hl := lv_sub hl [2, 3, 1, 0] rfl
  obtain ⟨I4, μ4, hi4, hs4⟩ := hw
  have L4 : ∀ (n : Nat) (l2_4 : Int32) (l3_4 : Int32) (H : Heap) (locs : List Loc) (ls : Array Slot), μ4 l2_4 l3_4 < n → I4 l2_4 l3_4 → lv_has ls 4 [(0, .ref h0), (1, .int p0), (2, .int l2_4), (3, .int l3_4)] → va_P (dC, dI) classes (WS_H_heldUnderControl cI cL cZ h0 a_parts a_chainLengths a_underControl a_shares a_chainShares a_longerChainShares v_parts v_underControl) H → va_D A (WS_H_heldUnderControl cI cL cZ h0 a_parts a_chainLengths a_underControl a_shares a_chainShares a_longerChainShares v_parts v_underControl) → va_S A s.heap H locs → W p l e (headSpec ws_H_heldUnderControl rm_H_heldUnderControl).room s m ([.ref h0, .int p0] : List Value).toArray below meth c H locs 0 0 (MQ below (QC_H_heldUnderControl dC dI cI cL cZ A h0 a_parts a_chainLengths a_underControl a_shares a_chainShares a_longerChainShares v_parts v_underControl post) ([.ref h0, .int p0] : List Value).toArray s 0 0 A) (F0 m 4 ls []) := by
    intro n
    induction n with
    | zero => intro l2_4 l3_4 H locs ls hn; exact absurd hn (Nat.not_lt_zero _)
    | succ n ih4 =>
      intro l2_4 l3_4 H locs ls hn4 hI hl hP hD hS
      have hw := hs4 l2_4 l3_4 hI
      refine lv_iload_n hx hb d_H_heldUnderControl_4 rfl (lv_at hl 3 rfl) ?_
      refine lv_bipush (v := 12) hx hb d_H_heldUnderControl_5 (by decide) ?_
      refine lv_icmp_ge (tgt := 39) hx hb d_H_heldUnderControl_7 rfl (fun hc => ?_) (fun hc => ?_)
      ·
        have hw := hw.1 hc
        refine lv_iload_n hx hb d_H_heldUnderControl_39 rfl (lv_at hl 2 rfl) ?_
        exact W.iret (v := l2_4) hx hb hr (fun t ht hW => ⟨⟨l2_4, (), rfl, hw, ⟨by rw [ht]; exact hP, hD⟩⟩, hS.F ht⟩) hS.2.2 d_H_heldUnderControl_40
      ·
        have hw := hw.2 hc
        refine lv_aload_n hx hb d_H_heldUnderControl_10 rfl (lv_at hl 0 rfl) ?_
        refine va_get (D := (dC, dI)) (ci := 0) (v := .ref a_underControl) (C := R_H) (T := F_H) (N := 6) hx hb hts (kx_in in_H) hown hK hP 0 rfl rfl 2 (by decide) (hts _ (kx_w iw_30)) (fun _ h9 => h9) rfl d_H_heldUnderControl_11 ?_
        refine lv_iload_n hx hb d_H_heldUnderControl_14 rfl (lv_at hl 3 rfl) ?_
        obtain ⟨hi, hw⟩ := hw
        refine va_zald hx hb hK hP 2 2 rfl rfl hi d_H_heldUnderControl_15 ?_
        refine lv_if_eq (tgt := 33) hx hb d_H_heldUnderControl_16 rfl (fun hc => ?_) (fun hc => ?_)
        ·
          have hw := hw.1 hc
          refine lv_iinc (v := (l3_4 + 1)) (lv' := [(3, .int (l3_4 + 1)), (0, .ref h0), (1, .int p0), (2, .int l2_4)]) hx hb d_H_heldUnderControl_33 hl (k := 3) rfl rfl (by decide) rfl (fun ls hl => ?_)
          refine lv_goto (tgt := 4) hx hb d_H_heldUnderControl_36 rfl ?_
          have hl := lv_sub hl [1, 2, 3, 0] rfl
          exact ih4 l2_4 (l3_4 + 1) _ _ _ (Nat.lt_of_lt_of_le hw.2 (Nat.le_of_lt_succ hn4)) hw.1 hl hP hD hS
        ·
          have hw := hw.2 hc
          refine lv_iload_n hx hb d_H_heldUnderControl_19 rfl (lv_at hl 2 rfl) ?_
          refine lv_aload_n hx hb d_H_heldUnderControl_20 rfl (lv_at hl 0 rfl) ?_
          refine va_get (D := (dC, dI)) (ci := 0) (v := .ref a_parts) (C := R_H) (T := F_H) (N := 6) hx hb hts (kx_in in_H) hown hK hP 0 rfl rfl 0 (by decide) (hts _ (kx_w iw_28)) (fun _ h9 => h9) rfl d_H_heldUnderControl_21 ?_
          refine lv_iload_n hx hb d_H_heldUnderControl_24 rfl (lv_at hl 3 rfl) ?_
          refine lv_bipush (v := 12) hx hb d_H_heldUnderControl_25 (by decide) ?_
          refine lv_imul hx hb d_H_heldUnderControl_27 ?_
          refine lv_iload_n hx hb d_H_heldUnderControl_28 rfl (lv_at hl 1 rfl) ?_
          refine lv_iadd hx hb d_H_heldUnderControl_29 ?_
          obtain ⟨hi, hw⟩ := hw
          refine va_iald hx hb hK hP 1 0 rfl rfl hi d_H_heldUnderControl_30 ?_
          refine lv_iadd hx hb d_H_heldUnderControl_31 ?_
          refine lv_topi (fun x32 e32 => ?_)
          have hw := hw x32 e32
          refine lv_istore_n (lv' := [(2, .int x32), (0, .ref h0), (1, .int p0), (3, .int l3_4)]) hx hb d_H_heldUnderControl_32 rfl hl (by decide) rfl (fun ls hl => ?_)
          refine lv_iinc (v := (l3_4 + 1)) (lv' := [(3, .int (l3_4 + 1)), (2, .int x32), (0, .ref h0), (1, .int p0)]) hx hb d_H_heldUnderControl_33 hl (k := 3) rfl rfl (by decide) rfl (fun ls hl => ?_)
          refine lv_goto (tgt := 4) hx hb d_H_heldUnderControl_36 rfl ?_
          have hl := lv_sub hl [2, 3, 1, 0] rfl
          exact ih4 x32 (l3_4 + 1) _ _ _ (Nat.lt_of_lt_of_le hw.2 (Nat.le_of_lt_succ hn4)) hw.1 hl hP hD hS
  exact L4 _ 0 0 _ _ _ (Nat.lt_succ_self _) hi4 hl hP hD hS
/-! ConsolidationDesk$Holdings.findControl()V -/
abbrev y_H_findControl : MethodName := ⟨"ConsolidationDesk$Holdings", "findControl", "()V"⟩
theorem d_H_findControl_0 : decode prog_2_method_8_code 0 = .ok (.iconst 0, 1) := by decide +kernel
theorem d_H_findControl_1 : decode prog_2_method_8_code 1 = .ok (.istore_n 1, 1) := by decide +kernel
theorem d_H_findControl_2 : decode prog_2_method_8_code 2 = .ok (.iload_n 1, 1) := by decide +kernel
theorem d_H_findControl_3 : decode prog_2_method_8_code 3 = .ok (.bipush 12, 2) := by decide +kernel
theorem d_H_findControl_5 : decode prog_2_method_8_code 5 = .ok (.if_icmp .ge 24, 3) := by decide +kernel
theorem d_H_findControl_8 : decode prog_2_method_8_code 8 = .ok (.aload_n 0, 1) := by decide +kernel
theorem d_H_findControl_9 : decode prog_2_method_8_code 9 = .ok (.getfield 18, 3) := by decide +kernel
theorem d_H_findControl_12 : decode prog_2_method_8_code 12 = .ok (.iload_n 1, 1) := by decide +kernel
theorem d_H_findControl_13 : decode prog_2_method_8_code 13 = .ok (.iload_n 1, 1) := by decide +kernel
theorem d_H_findControl_14 : decode prog_2_method_8_code 14 = .ok (.ifCond .ne 7, 3) := by decide +kernel
theorem d_H_findControl_17 : decode prog_2_method_8_code 17 = .ok (.iconst 1, 1) := by decide +kernel
theorem d_H_findControl_18 : decode prog_2_method_8_code 18 = .ok (.goto 4, 3) := by decide +kernel
theorem d_H_findControl_21 : decode prog_2_method_8_code 21 = .ok (.iconst 0, 1) := by decide +kernel
theorem d_H_findControl_22 : decode prog_2_method_8_code 22 = .ok (.bastore, 1) := by decide +kernel
theorem d_H_findControl_23 : decode prog_2_method_8_code 23 = .ok (.iinc 1 1, 3) := by decide +kernel
theorem d_H_findControl_26 : decode prog_2_method_8_code 26 = .ok (.goto (-24), 3) := by decide +kernel
theorem d_H_findControl_29 : decode prog_2_method_8_code 29 = .ok (.iconst 0, 1) := by decide +kernel
theorem d_H_findControl_30 : decode prog_2_method_8_code 30 = .ok (.istore_n 1, 1) := by decide +kernel
theorem d_H_findControl_31 : decode prog_2_method_8_code 31 = .ok (.iload_n 1, 1) := by decide +kernel
theorem d_H_findControl_32 : decode prog_2_method_8_code 32 = .ok (.iconst 4, 1) := by decide +kernel
theorem d_H_findControl_33 : decode prog_2_method_8_code 33 = .ok (.if_icmp .ge 54, 3) := by decide +kernel
theorem d_H_findControl_36 : decode prog_2_method_8_code 36 = .ok (.iconst 0, 1) := by decide +kernel
theorem d_H_findControl_37 : decode prog_2_method_8_code 37 = .ok (.istore_n 2, 1) := by decide +kernel
theorem d_H_findControl_38 : decode prog_2_method_8_code 38 = .ok (.iload_n 2, 1) := by decide +kernel
theorem d_H_findControl_39 : decode prog_2_method_8_code 39 = .ok (.bipush 12, 2) := by decide +kernel
theorem d_H_findControl_41 : decode prog_2_method_8_code 41 = .ok (.if_icmp .ge 40, 3) := by decide +kernel
theorem d_H_findControl_44 : decode prog_2_method_8_code 44 = .ok (.aload_n 0, 1) := by decide +kernel
theorem d_H_findControl_45 : decode prog_2_method_8_code 45 = .ok (.getfield 18, 3) := by decide +kernel
theorem d_H_findControl_48 : decode prog_2_method_8_code 48 = .ok (.iload_n 2, 1) := by decide +kernel
theorem d_H_findControl_49 : decode prog_2_method_8_code 49 = .ok (.aload_n 0, 1) := by decide +kernel
theorem d_H_findControl_50 : decode prog_2_method_8_code 50 = .ok (.getfield 18, 3) := by decide +kernel
theorem d_H_findControl_53 : decode prog_2_method_8_code 53 = .ok (.iload_n 2, 1) := by decide +kernel
theorem d_H_findControl_54 : decode prog_2_method_8_code 54 = .ok (.baload, 1) := by decide +kernel
theorem d_H_findControl_55 : decode prog_2_method_8_code 55 = .ok (.ifCond .ne 14, 3) := by decide +kernel
theorem d_H_findControl_58 : decode prog_2_method_8_code 58 = .ok (.aload_n 0, 1) := by decide +kernel
theorem d_H_findControl_59 : decode prog_2_method_8_code 59 = .ok (.iload_n 2, 1) := by decide +kernel
theorem d_H_findControl_60 : decode prog_2_method_8_code 60 = .ok (.invokevirtual 63, 3) := by decide +kernel
theorem d_H_findControl_63 : decode prog_2_method_8_code 63 = .ok (.sipush 5000, 3) := by decide +kernel
theorem d_H_findControl_66 : decode prog_2_method_8_code 66 = .ok (.if_icmp .le 7, 3) := by decide +kernel
theorem d_H_findControl_69 : decode prog_2_method_8_code 69 = .ok (.iconst 1, 1) := by decide +kernel
theorem d_H_findControl_70 : decode prog_2_method_8_code 70 = .ok (.goto 4, 3) := by decide +kernel
theorem d_H_findControl_73 : decode prog_2_method_8_code 73 = .ok (.iconst 0, 1) := by decide +kernel
theorem d_H_findControl_74 : decode prog_2_method_8_code 74 = .ok (.bastore, 1) := by decide +kernel
theorem d_H_findControl_75 : decode prog_2_method_8_code 75 = .ok (.iinc 2 1, 3) := by decide +kernel
theorem d_H_findControl_78 : decode prog_2_method_8_code 78 = .ok (.goto (-40), 3) := by decide +kernel
theorem d_H_findControl_81 : decode prog_2_method_8_code 81 = .ok (.iinc 1 1, 3) := by decide +kernel
theorem d_H_findControl_84 : decode prog_2_method_8_code 84 = .ok (.goto (-53), 3) := by decide +kernel
theorem d_H_findControl_87 : decode prog_2_method_8_code 87 = .ok (.return_, 1) := by decide +kernel
abbrev WS_H_findControl (cI cL cZ : ClassId)  (h0 a_parts a_chainLengths a_underControl a_shares a_chainShares a_longerChainShares : Nat) (v_parts : (Nat → Int32)) (v_underControl : (Nat → Int32)) : va_W := [(h0, .inr (0, [.ref a_parts, .ref a_chainLengths, .ref a_underControl, .ref a_shares, .ref a_chainShares, .ref a_longerChainShares])), (a_parts, .inl (cI, 144, .inl v_parts)), (a_underControl, .inl (cZ, 12, .inl v_underControl))]
def wp_H_findControl   (v_parts : (Nat → Int32)) (v_underControl : (Nat → Int32)) (post : (Nat → Int32) → Prop) : Prop := (∃ (I2 : Int32 → (Nat → Int32) → Prop) (μ2 : Int32 → (Nat → Int32) → Nat), I2 0 v_underControl ∧ ∀ (l1_2 : Int32) (v_underControl_2 : (Nat → Int32)), I2 l1_2 v_underControl_2 → ((12 ≤ l1_2 → (∃ (I31 : Int32 → (Nat → Int32) → Prop) (μ31 : Int32 → (Nat → Int32) → Nat), I31 0 v_underControl_2 ∧ ∀ (l1_31 : Int32) (v_underControl_31 : (Nat → Int32)), I31 l1_31 v_underControl_31 → ((4 ≤ l1_31 → post v_underControl_31) ∧ (¬ 4 ≤ l1_31 → (∃ (I38 : Int32 → (Nat → Int32) → Prop) (μ38 : Int32 → (Nat → Int32) → Nat), I38 0 v_underControl_31 ∧ ∀ (l2_38 : Int32) (v_underControl_38 : (Nat → Int32)), I38 l2_38 v_underControl_38 → ((12 ≤ l2_38 → I31 (l1_31 + 1) v_underControl_38 ∧ μ31 (l1_31 + 1) v_underControl_38 < μ31 l1_31 v_underControl_31) ∧ (¬ 12 ≤ l2_38 → (vp_in l2_38 12 ∧ ((¬ (v_underControl_38 l2_38.toNatClampNeg) = 0 → (vp_in l2_38 12 ∧ I38 (l2_38 + 1) (upd v_underControl_38 l2_38.toNatClampNeg (vp_nar .boolean 1)) ∧ μ38 (l2_38 + 1) (upd v_underControl_38 l2_38.toNatClampNeg (vp_nar .boolean 1)) < μ38 l2_38 v_underControl_38)) ∧ ((v_underControl_38 l2_38.toNatClampNeg) = 0 → (wp_H_heldUnderControl l2_38 v_parts v_underControl_38 (fun (r60 : Int32) (u60 : Unit) => ((r60 ≤ 5000 → (vp_in l2_38 12 ∧ I38 (l2_38 + 1) (upd v_underControl_38 l2_38.toNatClampNeg (vp_nar .boolean 0)) ∧ μ38 (l2_38 + 1) (upd v_underControl_38 l2_38.toNatClampNeg (vp_nar .boolean 0)) < μ38 l2_38 v_underControl_38)) ∧ (¬ r60 ≤ 5000 → (vp_in l2_38 12 ∧ I38 (l2_38 + 1) (upd v_underControl_38 l2_38.toNatClampNeg (vp_nar .boolean 1)) ∧ μ38 (l2_38 + 1) (upd v_underControl_38 l2_38.toNatClampNeg (vp_nar .boolean 1)) < μ38 l2_38 v_underControl_38))))))))))))))) ∧ (¬ 12 ≤ l1_2 → ((¬ l1_2 = 0 → (vp_in l1_2 12 ∧ I2 (l1_2 + 1) (upd v_underControl_2 l1_2.toNatClampNeg (vp_nar .boolean 0)) ∧ μ2 (l1_2 + 1) (upd v_underControl_2 l1_2.toNatClampNeg (vp_nar .boolean 0)) < μ2 l1_2 v_underControl_2)) ∧ (l1_2 = 0 → (vp_in l1_2 12 ∧ I2 (l1_2 + 1) (upd v_underControl_2 l1_2.toNatClampNeg (vp_nar .boolean 1)) ∧ μ2 (l1_2 + 1) (upd v_underControl_2 l1_2.toNatClampNeg (vp_nar .boolean 1)) < μ2 l1_2 v_underControl_2))))))
abbrev ws_H_findControl : List Cond := .code y_H_findControl prog_2_method_8_code 3 none :: kxW
abbrev rm_H_findControl : Room := { frames := 1, cells := 0, slots := 0, locals := 23 }
abbrev QC_H_findControl (dC : Nat → ClassId) (dI : Nat → Nat → Nat) (cI cL cZ : ClassId) (A : Nat → Prop)  (h0 a_parts a_chainLengths a_underControl a_shares a_chainShares a_longerChainShares : Nat) (v_parts : (Nat → Int32)) (v_underControl : (Nat → Int32)) (post : (Nat → Int32) → Prop) : Array Value → State → Outcome → State → Prop := va_Qv post (fun (u : (Nat → Int32)) t => kx_B (dC, dI) classes A (WS_H_findControl cI cL cZ h0 a_parts a_chainLengths a_underControl a_shares a_chainShares a_longerChainShares v_parts u) t) A
set_option maxHeartbeats 4000000 in
set_option maxRecDepth 100000 in
theorem c_H_findControl (l : Launch) (dC : Nat → ClassId) (dI : Nat → Nat → Nat) (cI cL cZ : ClassId)  (h0 a_parts a_chainLengths a_underControl a_shares a_chainShares a_longerChainShares : Nat) (v_parts : (Nat → Int32)) (v_underControl : (Nat → Int32)) (sz : Nat)  {post : (Nat → Int32) → Prop} (hw : wp_H_findControl v_parts v_underControl post) : Met l y_H_findControl ws_H_findControl rm_H_findControl (kx_Pc (dC, dI) classes (kx_T cI cL cZ) (WS_H_findControl cI cL cZ h0 a_parts a_chainLengths a_underControl a_shares a_chainShares a_longerChainShares v_parts v_underControl) sz [.ref h0]) (QC_H_findControl dC dI cI cL cZ (va_A (WS_H_findControl cI cL cZ h0 a_parts a_chainLengths a_underControl a_shares a_chainShares a_longerChainShares v_parts v_underControl) sz) h0 a_parts a_chainLengths a_underControl a_shares a_chainShares a_longerChainShares v_parts v_underControl post) 0 0 (va_A (WS_H_findControl cI cL cZ h0 a_parts a_chainLengths a_underControl a_shares a_chainShares a_longerChainShares v_parts v_underControl) sz) := by
  refine Met.ofW (cc := prog_2_method_8_code) (maxL := 3) (ret := none) (by decide) rfl ?_
  intro p e s m args below meth c s₁ B hml hv
  obtain ⟨rfl, hsz, hP, hK, hD0, hN⟩ := hv
  have hx := B.exec
  have hb := B.bytes
  have hr := B.returns
  have hts := atoms_spec (ws := ws_H_findControl) B.pre
  have hown : s.vm.findClass R_H = some m.cls := findClass_of_methodNamed B.named
  have hlocks := B.notSynchronized
  subst hsz
  have hD := hD0.self (sz := s.heap.size)
  generalize hAe : va_A (WS_H_findControl cI cL cZ h0 a_parts a_chainLengths a_underControl a_shares a_chainShares a_longerChainShares v_parts v_underControl) s.heap.size = A at hD ⊢
  have hA : ∀ q : Nat, s.heap.size ≤ q → A q := fun q h => by rw [← hAe]; exact Or.inr h
  have hS : va_S A s.heap s.heap [] := va_S.rf
  have hP : va_P (dC, dI) classes (WS_H_findControl cI cL cZ h0 a_parts a_chainLengths a_underControl a_shares a_chainShares a_longerChainShares v_parts v_underControl) s.heap := hP
  have hl := lv_entry ([.ref h0]) (n := 3) (Nat.le_of_ble_eq_true rfl)
  rw [lg_entry_eq]
  generalize (lg_sl ([.ref h0]) ++ List.replicate (3 - (lg_sl ([.ref h0])).length) Slot.unset).toArray = ls at hl ⊢
  have hl : lv_has ls 3 [(0, .ref h0)] := hl
  unfold wp_H_findControl at hw
  refine (show ∀ (H : Heap) (locs : List Loc), va_P (dC, dI) classes (WS_H_findControl cI cL cZ h0 a_parts a_chainLengths a_underControl a_shares a_chainShares a_longerChainShares v_parts v_underControl) H → va_S A s.heap H locs → W p l e (headSpec ws_H_findControl rm_H_findControl).room s m ([.ref h0] : List Value).toArray below meth c H locs 0 0 (MQ below (QC_H_findControl dC dI cI cL cZ A h0 a_parts a_chainLengths a_underControl a_shares a_chainShares a_longerChainShares v_parts v_underControl post) ([.ref h0] : List Value).toArray s 0 0 A) (F0 m 0 ls []) from ?_) _ _ hP hS
  intro H locs hP hS
  refine lv_iconst (v := 0) hx hb d_H_findControl_0 (by decide) ?_
  refine lv_istore_n (lv' := [(1, .int 0), (0, .ref h0)]) hx hb d_H_findControl_1 rfl hl (by decide) rfl (fun ls hl => ?_)
  have hl := lv_sub hl [1, 0] rfl
  obtain ⟨I2, μ2, hi2, hs2⟩ := hw
  have L2 : ∀ (n : Nat) (l1_2 : Int32) (v_underControl_2 : (Nat → Int32)) (H : Heap) (locs : List Loc) (ls : Array Slot), μ2 l1_2 v_underControl_2 < n → I2 l1_2 v_underControl_2 → lv_has ls 3 [(0, .ref h0), (1, .int l1_2)] → va_P (dC, dI) classes (WS_H_findControl cI cL cZ h0 a_parts a_chainLengths a_underControl a_shares a_chainShares a_longerChainShares v_parts v_underControl_2) H → va_D A (WS_H_findControl cI cL cZ h0 a_parts a_chainLengths a_underControl a_shares a_chainShares a_longerChainShares v_parts v_underControl_2) → va_S A s.heap H locs → W p l e (headSpec ws_H_findControl rm_H_findControl).room s m ([.ref h0] : List Value).toArray below meth c H locs 0 0 (MQ below (QC_H_findControl dC dI cI cL cZ A h0 a_parts a_chainLengths a_underControl a_shares a_chainShares a_longerChainShares v_parts v_underControl post) ([.ref h0] : List Value).toArray s 0 0 A) (F0 m 2 ls []) := by
    intro n
    induction n with
    | zero => intro l1_2 v_underControl_2 H locs ls hn; exact absurd hn (Nat.not_lt_zero _)
    | succ n ih2 =>
      intro l1_2 v_underControl_2 H locs ls hn2 hI hl hP hD hS
      have hw := hs2 l1_2 v_underControl_2 hI
      refine lv_iload_n hx hb d_H_findControl_2 rfl (lv_at hl 1 rfl) ?_
      refine lv_bipush (v := 12) hx hb d_H_findControl_3 (by decide) ?_
      refine lv_icmp_ge (tgt := 29) hx hb d_H_findControl_5 rfl (fun hc => ?_) (fun hc => ?_)
      ·
        have hw := hw.1 hc
        refine lv_iconst (v := 0) hx hb d_H_findControl_29 (by decide) ?_
        refine lv_istore_n (lv' := [(1, .int 0), (0, .ref h0)]) hx hb d_H_findControl_30 rfl hl (by decide) rfl (fun ls hl => ?_)
        have hl := lv_sub hl [1, 0] rfl
        obtain ⟨I31, μ31, hi31, hs31⟩ := hw
        have L31 : ∀ (n : Nat) (l1_31 : Int32) (v_underControl_31 : (Nat → Int32)) (H : Heap) (locs : List Loc) (ls : Array Slot), μ31 l1_31 v_underControl_31 < n → I31 l1_31 v_underControl_31 → lv_has ls 3 [(0, .ref h0), (1, .int l1_31)] → va_P (dC, dI) classes (WS_H_findControl cI cL cZ h0 a_parts a_chainLengths a_underControl a_shares a_chainShares a_longerChainShares v_parts v_underControl_31) H → va_D A (WS_H_findControl cI cL cZ h0 a_parts a_chainLengths a_underControl a_shares a_chainShares a_longerChainShares v_parts v_underControl_31) → va_S A s.heap H locs → W p l e (headSpec ws_H_findControl rm_H_findControl).room s m ([.ref h0] : List Value).toArray below meth c H locs 0 0 (MQ below (QC_H_findControl dC dI cI cL cZ A h0 a_parts a_chainLengths a_underControl a_shares a_chainShares a_longerChainShares v_parts v_underControl post) ([.ref h0] : List Value).toArray s 0 0 A) (F0 m 31 ls []) := by
          intro n
          induction n with
          | zero => intro l1_31 v_underControl_31 H locs ls hn; exact absurd hn (Nat.not_lt_zero _)
          | succ n ih31 =>
            intro l1_31 v_underControl_31 H locs ls hn31 hI hl hP hD hS
            have hw := hs31 l1_31 v_underControl_31 hI
            refine lv_iload_n hx hb d_H_findControl_31 rfl (lv_at hl 1 rfl) ?_
            refine lv_iconst (v := 4) hx hb d_H_findControl_32 (by decide) ?_
            refine lv_icmp_ge (tgt := 87) hx hb d_H_findControl_33 rfl (fun hc => ?_) (fun hc => ?_)
            ·
              have hw := hw.1 hc
              exact W.vret hx hb hr (fun t ht hW => ⟨⟨v_underControl_31, rfl, hw, ⟨by rw [ht]; exact hP, hD⟩⟩, hS.F ht⟩) hS.2.2 d_H_findControl_87
            ·
              have hw := hw.2 hc
              refine lv_iconst (v := 0) hx hb d_H_findControl_36 (by decide) ?_
              refine lv_istore_n (lv' := [(2, .int 0), (0, .ref h0), (1, .int l1_31)]) hx hb d_H_findControl_37 rfl hl (by decide) rfl (fun ls hl => ?_)
              have hl := lv_sub hl [1, 2, 0] rfl
              obtain ⟨I38, μ38, hi38, hs38⟩ := hw
              have L38 : ∀ (n : Nat) (l2_38 : Int32) (v_underControl_38 : (Nat → Int32)) (H : Heap) (locs : List Loc) (ls : Array Slot), μ38 l2_38 v_underControl_38 < n → I38 l2_38 v_underControl_38 → lv_has ls 3 [(0, .ref h0), (1, .int l1_31), (2, .int l2_38)] → va_P (dC, dI) classes (WS_H_findControl cI cL cZ h0 a_parts a_chainLengths a_underControl a_shares a_chainShares a_longerChainShares v_parts v_underControl_38) H → va_D A (WS_H_findControl cI cL cZ h0 a_parts a_chainLengths a_underControl a_shares a_chainShares a_longerChainShares v_parts v_underControl_38) → va_S A s.heap H locs → W p l e (headSpec ws_H_findControl rm_H_findControl).room s m ([.ref h0] : List Value).toArray below meth c H locs 0 0 (MQ below (QC_H_findControl dC dI cI cL cZ A h0 a_parts a_chainLengths a_underControl a_shares a_chainShares a_longerChainShares v_parts v_underControl post) ([.ref h0] : List Value).toArray s 0 0 A) (F0 m 38 ls []) := by
                intro n
                induction n with
                | zero => intro l2_38 v_underControl_38 H locs ls hn; exact absurd hn (Nat.not_lt_zero _)
                | succ n ih38 =>
                  intro l2_38 v_underControl_38 H locs ls hn38 hI hl hP hD hS
                  have hw := hs38 l2_38 v_underControl_38 hI
                  refine lv_iload_n hx hb d_H_findControl_38 rfl (lv_at hl 2 rfl) ?_
                  refine lv_bipush (v := 12) hx hb d_H_findControl_39 (by decide) ?_
                  refine lv_icmp_ge (tgt := 81) hx hb d_H_findControl_41 rfl (fun hc => ?_) (fun hc => ?_)
                  ·
                    have hw := hw.1 hc
                    refine lv_iinc (v := (l1_31 + 1)) (lv' := [(1, .int (l1_31 + 1)), (0, .ref h0), (2, .int l2_38)]) hx hb d_H_findControl_81 hl (k := 1) rfl rfl (by decide) rfl (fun ls hl => ?_)
                    refine lv_goto (tgt := 31) hx hb d_H_findControl_84 rfl ?_
                    have hl := lv_sub hl [1, 0] rfl
                    exact ih31 (l1_31 + 1) v_underControl_38 _ _ _ (Nat.lt_of_lt_of_le hw.2 (Nat.le_of_lt_succ hn31)) hw.1 hl hP hD hS
                  ·
                    have hw := hw.2 hc
                    refine lv_aload_n hx hb d_H_findControl_44 rfl (lv_at hl 0 rfl) ?_
                    refine va_get (D := (dC, dI)) (ci := 0) (v := .ref a_underControl) (C := R_H) (T := F_H) (N := 6) hx hb hts (kx_in in_H) hown hK hP 0 rfl rfl 2 (by decide) (hts _ (kx_w iw_30)) (fun _ h9 => h9) rfl d_H_findControl_45 ?_
                    refine lv_iload_n hx hb d_H_findControl_48 rfl (lv_at hl 2 rfl) ?_
                    refine lv_aload_n hx hb d_H_findControl_49 rfl (lv_at hl 0 rfl) ?_
                    refine va_get (D := (dC, dI)) (ci := 0) (v := .ref a_underControl) (C := R_H) (T := F_H) (N := 6) hx hb hts (kx_in in_H) hown hK hP 0 rfl rfl 2 (by decide) (hts _ (kx_w iw_30)) (fun _ h9 => h9) rfl d_H_findControl_50 ?_
                    refine lv_iload_n hx hb d_H_findControl_53 rfl (lv_at hl 2 rfl) ?_
                    obtain ⟨hi, hw⟩ := hw
                    refine va_zald hx hb hK hP 2 2 rfl rfl hi d_H_findControl_54 ?_
                    refine lv_if_ne (tgt := 69) hx hb d_H_findControl_55 rfl (fun hc => ?_) (fun hc => ?_)
                    ·
                      have hw := hw.1 hc
                      refine lv_iconst (v := 1) hx hb d_H_findControl_69 (by decide) ?_
                      refine lv_goto (tgt := 74) hx hb d_H_findControl_70 rfl ?_
                      obtain ⟨hi, hw⟩ := hw
                      refine va_zast hx hb hK hP hD hS 2 2 rfl rfl hi d_H_findControl_74 (fun H locs hP hD hS => ?_)
                      have hP : va_P (dC, dI) classes (WS_H_findControl cI cL cZ h0 a_parts a_chainLengths a_underControl a_shares a_chainShares a_longerChainShares v_parts (upd v_underControl_38 l2_38.toNatClampNeg (vp_nar .boolean 1))) H := hP
                      have hD : va_D A (WS_H_findControl cI cL cZ h0 a_parts a_chainLengths a_underControl a_shares a_chainShares a_longerChainShares v_parts (upd v_underControl_38 l2_38.toNatClampNeg (vp_nar .boolean 1))) := hD
                      refine lv_iinc (v := (l2_38 + 1)) (lv' := [(2, .int (l2_38 + 1)), (0, .ref h0), (1, .int l1_31)]) hx hb d_H_findControl_75 hl (k := 2) rfl rfl (by decide) rfl (fun ls hl => ?_)
                      refine lv_goto (tgt := 38) hx hb d_H_findControl_78 rfl ?_
                      have hl := lv_sub hl [1, 2, 0] rfl
                      exact ih38 (l2_38 + 1) (upd v_underControl_38 l2_38.toNatClampNeg (vp_nar .boolean 1)) _ _ _ (Nat.lt_of_lt_of_le hw.2 (Nat.le_of_lt_succ hn38)) hw.1 hl hP hD hS
                    ·
                      have hw := hw.2 hc
                      refine lv_aload_n hx hb d_H_findControl_58 rfl (lv_at hl 0 rfl) ?_
                      refine lv_iload_n hx hb d_H_findControl_59 rfl (lv_at hl 2 rfl) ?_
                      refine kx_calli (ws' := fun u60 => (WS_H_findControl cI cL cZ h0 a_parts a_chainLengths a_underControl a_shares a_chainShares a_longerChainShares v_parts v_underControl_38)) (va_runV (As := [.int l2_38]) (rest := [.int l2_38, .ref a_underControl]) ⟨hx, hb, hml, hown, hts⟩ (c_H_heldUnderControl l dC dI cI cL cZ h0 a_parts a_chainLengths a_underControl a_shares a_chainShares a_longerChainShares v_parts v_underControl_38 H.size l2_38 hw) ⟨(callB_of 1 hts (kx_good iw_166) rfl rfl rfl (hts _ (kx_w iw_2)) (hts _ (kx_w iw_163)) (by decide +kernel) ⟨Nat.le_of_ble_eq_true rfl, Nat.le_of_ble_eq_true rfl⟩), (hts _ (kx_w iw_165)), (hts _ (kx_w sl_H_heldUnderControl))⟩ (kx_preV hN hK hP hD [0, 1, 2] (by decide) rfl 0 rfl rfl) rfl rfl hl.1 rfl (lv_room (Nat.le_of_ble_eq_true rfl)) d_H_findControl_60 ⟨Nat.le_of_ble_eq_true rfl, Nat.le_of_ble_eq_true rfl⟩) hP hD hS hA [0, 1, 2] [] rfl rfl (by decide) (by decide) [0, 1, 2] (by decide) (fun _ => rfl) (fun r60 u60 H locs hw hP hD hS => ?_)
                      have hP : va_P (dC, dI) classes (WS_H_findControl cI cL cZ h0 a_parts a_chainLengths a_underControl a_shares a_chainShares a_longerChainShares v_parts v_underControl_38) H := hP
                      have hD : va_D A (WS_H_findControl cI cL cZ h0 a_parts a_chainLengths a_underControl a_shares a_chainShares a_longerChainShares v_parts v_underControl_38) := hD
                      refine lv_sipush (v := 5000) hx hb d_H_findControl_63 (by decide) ?_
                      refine lv_icmp_le (tgt := 73) hx hb d_H_findControl_66 rfl (fun hc => ?_) (fun hc => ?_)
                      ·
                        have hw := hw.1 hc
                        refine lv_iconst (v := 0) hx hb d_H_findControl_73 (by decide) ?_
                        obtain ⟨hi, hw⟩ := hw
                        refine va_zast hx hb hK hP hD hS 2 2 rfl rfl hi d_H_findControl_74 (fun H locs hP hD hS => ?_)
                        have hP : va_P (dC, dI) classes (WS_H_findControl cI cL cZ h0 a_parts a_chainLengths a_underControl a_shares a_chainShares a_longerChainShares v_parts (upd v_underControl_38 l2_38.toNatClampNeg (vp_nar .boolean 0))) H := hP
                        have hD : va_D A (WS_H_findControl cI cL cZ h0 a_parts a_chainLengths a_underControl a_shares a_chainShares a_longerChainShares v_parts (upd v_underControl_38 l2_38.toNatClampNeg (vp_nar .boolean 0))) := hD
                        refine lv_iinc (v := (l2_38 + 1)) (lv' := [(2, .int (l2_38 + 1)), (0, .ref h0), (1, .int l1_31)]) hx hb d_H_findControl_75 hl (k := 2) rfl rfl (by decide) rfl (fun ls hl => ?_)
                        refine lv_goto (tgt := 38) hx hb d_H_findControl_78 rfl ?_
                        have hl := lv_sub hl [1, 2, 0] rfl
                        exact ih38 (l2_38 + 1) (upd v_underControl_38 l2_38.toNatClampNeg (vp_nar .boolean 0)) _ _ _ (Nat.lt_of_lt_of_le hw.2 (Nat.le_of_lt_succ hn38)) hw.1 hl hP hD hS
                      ·
                        have hw := hw.2 hc
                        refine lv_iconst (v := 1) hx hb d_H_findControl_69 (by decide) ?_
                        refine lv_goto (tgt := 74) hx hb d_H_findControl_70 rfl ?_
                        obtain ⟨hi, hw⟩ := hw
                        refine va_zast hx hb hK hP hD hS 2 2 rfl rfl hi d_H_findControl_74 (fun H locs hP hD hS => ?_)
                        have hP : va_P (dC, dI) classes (WS_H_findControl cI cL cZ h0 a_parts a_chainLengths a_underControl a_shares a_chainShares a_longerChainShares v_parts (upd v_underControl_38 l2_38.toNatClampNeg (vp_nar .boolean 1))) H := hP
                        have hD : va_D A (WS_H_findControl cI cL cZ h0 a_parts a_chainLengths a_underControl a_shares a_chainShares a_longerChainShares v_parts (upd v_underControl_38 l2_38.toNatClampNeg (vp_nar .boolean 1))) := hD
                        refine lv_iinc (v := (l2_38 + 1)) (lv' := [(2, .int (l2_38 + 1)), (0, .ref h0), (1, .int l1_31)]) hx hb d_H_findControl_75 hl (k := 2) rfl rfl (by decide) rfl (fun ls hl => ?_)
                        refine lv_goto (tgt := 38) hx hb d_H_findControl_78 rfl ?_
                        have hl := lv_sub hl [1, 2, 0] rfl
                        exact ih38 (l2_38 + 1) (upd v_underControl_38 l2_38.toNatClampNeg (vp_nar .boolean 1)) _ _ _ (Nat.lt_of_lt_of_le hw.2 (Nat.le_of_lt_succ hn38)) hw.1 hl hP hD hS
              exact L38 _ 0 v_underControl_31 _ _ _ (Nat.lt_succ_self _) hi38 hl hP hD hS
        exact L31 _ 0 v_underControl_2 _ _ _ (Nat.lt_succ_self _) hi31 hl hP hD hS
      ·
        have hw := hw.2 hc
        refine lv_aload_n hx hb d_H_findControl_8 rfl (lv_at hl 0 rfl) ?_
        refine va_get (D := (dC, dI)) (ci := 0) (v := .ref a_underControl) (C := R_H) (T := F_H) (N := 6) hx hb hts (kx_in in_H) hown hK hP 0 rfl rfl 2 (by decide) (hts _ (kx_w iw_30)) (fun _ h9 => h9) rfl d_H_findControl_9 ?_
        refine lv_iload_n hx hb d_H_findControl_12 rfl (lv_at hl 1 rfl) ?_
        refine lv_iload_n hx hb d_H_findControl_13 rfl (lv_at hl 1 rfl) ?_
        refine lv_if_ne (tgt := 21) hx hb d_H_findControl_14 rfl (fun hc => ?_) (fun hc => ?_)
        ·
          have hw := hw.1 hc
          refine lv_iconst (v := 0) hx hb d_H_findControl_21 (by decide) ?_
          obtain ⟨hi, hw⟩ := hw
          refine va_zast hx hb hK hP hD hS 2 2 rfl rfl hi d_H_findControl_22 (fun H locs hP hD hS => ?_)
          have hP : va_P (dC, dI) classes (WS_H_findControl cI cL cZ h0 a_parts a_chainLengths a_underControl a_shares a_chainShares a_longerChainShares v_parts (upd v_underControl_2 l1_2.toNatClampNeg (vp_nar .boolean 0))) H := hP
          have hD : va_D A (WS_H_findControl cI cL cZ h0 a_parts a_chainLengths a_underControl a_shares a_chainShares a_longerChainShares v_parts (upd v_underControl_2 l1_2.toNatClampNeg (vp_nar .boolean 0))) := hD
          refine lv_iinc (v := (l1_2 + 1)) (lv' := [(1, .int (l1_2 + 1)), (0, .ref h0)]) hx hb d_H_findControl_23 hl (k := 1) rfl rfl (by decide) rfl (fun ls hl => ?_)
          refine lv_goto (tgt := 2) hx hb d_H_findControl_26 rfl ?_
          have hl := lv_sub hl [1, 0] rfl
          exact ih2 (l1_2 + 1) (upd v_underControl_2 l1_2.toNatClampNeg (vp_nar .boolean 0)) _ _ _ (Nat.lt_of_lt_of_le hw.2 (Nat.le_of_lt_succ hn2)) hw.1 hl hP hD hS
        ·
          have hw := hw.2 hc
          refine lv_iconst (v := 1) hx hb d_H_findControl_17 (by decide) ?_
          refine lv_goto (tgt := 22) hx hb d_H_findControl_18 rfl ?_
          obtain ⟨hi, hw⟩ := hw
          refine va_zast hx hb hK hP hD hS 2 2 rfl rfl hi d_H_findControl_22 (fun H locs hP hD hS => ?_)
          have hP : va_P (dC, dI) classes (WS_H_findControl cI cL cZ h0 a_parts a_chainLengths a_underControl a_shares a_chainShares a_longerChainShares v_parts (upd v_underControl_2 l1_2.toNatClampNeg (vp_nar .boolean 1))) H := hP
          have hD : va_D A (WS_H_findControl cI cL cZ h0 a_parts a_chainLengths a_underControl a_shares a_chainShares a_longerChainShares v_parts (upd v_underControl_2 l1_2.toNatClampNeg (vp_nar .boolean 1))) := hD
          refine lv_iinc (v := (l1_2 + 1)) (lv' := [(1, .int (l1_2 + 1)), (0, .ref h0)]) hx hb d_H_findControl_23 hl (k := 1) rfl rfl (by decide) rfl (fun ls hl => ?_)
          refine lv_goto (tgt := 2) hx hb d_H_findControl_26 rfl ?_
          have hl := lv_sub hl [1, 0] rfl
          exact ih2 (l1_2 + 1) (upd v_underControl_2 l1_2.toNatClampNeg (vp_nar .boolean 1)) _ _ _ (Nat.lt_of_lt_of_le hw.2 (Nat.le_of_lt_succ hn2)) hw.1 hl hP hD hS
  exact L2 _ 0 v_underControl _ _ _ (Nat.lt_succ_self _) hi2 hl hP hD hS
/-! ConsolidationDesk$Holdings.addLink()V -/
abbrev y_H_addLink : MethodName := ⟨"ConsolidationDesk$Holdings", "addLink", "()V"⟩
theorem d_H_addLink_0 : decode prog_2_method_11_code 0 = .ok (.aload_n 0, 1) := by decide +kernel
theorem d_H_addLink_1 : decode prog_2_method_11_code 1 = .ok (.getfield 29, 3) := by decide +kernel
theorem d_H_addLink_4 : decode prog_2_method_11_code 4 = .ok (.lconst 0, 1) := by decide +kernel
theorem d_H_addLink_5 : decode prog_2_method_11_code 5 = .ok (.invokestatic 66, 3) := by decide +kernel
theorem d_H_addLink_8 : decode prog_2_method_11_code 8 = .ok (.iconst 0, 1) := by decide +kernel
theorem d_H_addLink_9 : decode prog_2_method_11_code 9 = .ok (.istore_n 1, 1) := by decide +kernel
theorem d_H_addLink_10 : decode prog_2_method_11_code 10 = .ok (.iload_n 1, 1) := by decide +kernel
theorem d_H_addLink_11 : decode prog_2_method_11_code 11 = .ok (.bipush 12, 2) := by decide +kernel
theorem d_H_addLink_13 : decode prog_2_method_11_code 13 = .ok (.if_icmp .ge 61, 3) := by decide +kernel
theorem d_H_addLink_16 : decode prog_2_method_11_code 16 = .ok (.aload_n 0, 1) := by decide +kernel
theorem d_H_addLink_17 : decode prog_2_method_11_code 17 = .ok (.getfield 26, 3) := by decide +kernel
theorem d_H_addLink_20 : decode prog_2_method_11_code 20 = .ok (.iload_n 1, 1) := by decide +kernel
theorem d_H_addLink_21 : decode prog_2_method_11_code 21 = .ok (.laload, 1) := by decide +kernel
theorem d_H_addLink_22 : decode prog_2_method_11_code 22 = .ok (.ldc2_w 72, 3) := by decide +kernel
theorem d_H_addLink_25 : decode prog_2_method_11_code 25 = .ok (.ldiv, 1) := by decide +kernel
theorem d_H_addLink_26 : decode prog_2_method_11_code 26 = .ok (.lstore_n 2, 1) := by decide +kernel
theorem d_H_addLink_27 : decode prog_2_method_11_code 27 = .ok (.iconst 0, 1) := by decide +kernel
theorem d_H_addLink_28 : decode prog_2_method_11_code 28 = .ok (.istore 4, 2) := by decide +kernel
theorem d_H_addLink_30 : decode prog_2_method_11_code 30 = .ok (.iload 4, 2) := by decide +kernel
theorem d_H_addLink_32 : decode prog_2_method_11_code 32 = .ok (.bipush 12, 2) := by decide +kernel
theorem d_H_addLink_34 : decode prog_2_method_11_code 34 = .ok (.if_icmp .ge 34, 3) := by decide +kernel
theorem d_H_addLink_37 : decode prog_2_method_11_code 37 = .ok (.aload_n 0, 1) := by decide +kernel
theorem d_H_addLink_38 : decode prog_2_method_11_code 38 = .ok (.getfield 29, 3) := by decide +kernel
theorem d_H_addLink_41 : decode prog_2_method_11_code 41 = .ok (.iload 4, 2) := by decide +kernel
theorem d_H_addLink_43 : decode prog_2_method_11_code 43 = .ok (.dup2, 1) := by decide +kernel
theorem d_H_addLink_44 : decode prog_2_method_11_code 44 = .ok (.laload, 1) := by decide +kernel
theorem d_H_addLink_45 : decode prog_2_method_11_code 45 = .ok (.lload_n 2, 1) := by decide +kernel
theorem d_H_addLink_46 : decode prog_2_method_11_code 46 = .ok (.aload_n 0, 1) := by decide +kernel
theorem d_H_addLink_47 : decode prog_2_method_11_code 47 = .ok (.getfield 9, 3) := by decide +kernel
theorem d_H_addLink_50 : decode prog_2_method_11_code 50 = .ok (.iload_n 1, 1) := by decide +kernel
theorem d_H_addLink_51 : decode prog_2_method_11_code 51 = .ok (.bipush 12, 2) := by decide +kernel
theorem d_H_addLink_53 : decode prog_2_method_11_code 53 = .ok (.imul, 1) := by decide +kernel
theorem d_H_addLink_54 : decode prog_2_method_11_code 54 = .ok (.iload 4, 2) := by decide +kernel
theorem d_H_addLink_56 : decode prog_2_method_11_code 56 = .ok (.iadd, 1) := by decide +kernel
theorem d_H_addLink_57 : decode prog_2_method_11_code 57 = .ok (.iaload, 1) := by decide +kernel
theorem d_H_addLink_58 : decode prog_2_method_11_code 58 = .ok (.i2l, 1) := by decide +kernel
theorem d_H_addLink_59 : decode prog_2_method_11_code 59 = .ok (.lmul, 1) := by decide +kernel
theorem d_H_addLink_60 : decode prog_2_method_11_code 60 = .ok (.ladd, 1) := by decide +kernel
theorem d_H_addLink_61 : decode prog_2_method_11_code 61 = .ok (.lastore, 1) := by decide +kernel
theorem d_H_addLink_62 : decode prog_2_method_11_code 62 = .ok (.iinc 4 1, 3) := by decide +kernel
theorem d_H_addLink_65 : decode prog_2_method_11_code 65 = .ok (.goto (-35), 3) := by decide +kernel
theorem d_H_addLink_68 : decode prog_2_method_11_code 68 = .ok (.iinc 1 1, 3) := by decide +kernel
theorem d_H_addLink_71 : decode prog_2_method_11_code 71 = .ok (.goto (-61), 3) := by decide +kernel
theorem d_H_addLink_74 : decode prog_2_method_11_code 74 = .ok (.aload_n 0, 1) := by decide +kernel
theorem d_H_addLink_75 : decode prog_2_method_11_code 75 = .ok (.getfield 29, 3) := by decide +kernel
theorem d_H_addLink_78 : decode prog_2_method_11_code 78 = .ok (.iconst 0, 1) := by decide +kernel
theorem d_H_addLink_79 : decode prog_2_method_11_code 79 = .ok (.aload_n 0, 1) := by decide +kernel
theorem d_H_addLink_80 : decode prog_2_method_11_code 80 = .ok (.getfield 26, 3) := by decide +kernel
theorem d_H_addLink_83 : decode prog_2_method_11_code 83 = .ok (.iconst 0, 1) := by decide +kernel
theorem d_H_addLink_84 : decode prog_2_method_11_code 84 = .ok (.bipush 12, 2) := by decide +kernel
theorem d_H_addLink_86 : decode prog_2_method_11_code 86 = .ok (.invokestatic 74, 3) := by decide +kernel
theorem d_H_addLink_89 : decode prog_2_method_11_code 89 = .ok (.return_, 1) := by decide +kernel
abbrev WS_H_addLink (cI cL cZ : ClassId)  (h0 a_parts a_chainLengths a_underControl a_shares a_chainShares a_longerChainShares : Nat) (v_parts : (Nat → Int32)) (v_chainShares : (Nat → Int64)) (v_longerChainShares : (Nat → Int64)) : va_W := [(h0, .inr (0, [.ref a_parts, .ref a_chainLengths, .ref a_underControl, .ref a_shares, .ref a_chainShares, .ref a_longerChainShares])), (a_parts, .inl (cI, 144, .inl v_parts)), (a_chainShares, .inl (cL, 12, .inr (.inl v_chainShares))), (a_longerChainShares, .inl (cL, 12, .inr (.inl v_longerChainShares)))]
def wp_H_addLink   (v_parts : (Nat → Int32)) (v_chainShares : (Nat → Int64)) (v_longerChainShares : (Nat → Int64)) (post : ((Nat → Int64) × (Nat → Int64)) → Prop) : Prop := (wp_A_fillJ 12 0 v_longerChainShares (fun (u5 : (Nat → Int64)) => (∃ (I10 : Int32 → (Nat → Int64) → Prop) (μ10 : Int32 → (Nat → Int64) → Nat), I10 0 u5 ∧ ∀ (l1_10 : Int32) (v_longerChainShares_10 : (Nat → Int64)), I10 l1_10 v_longerChainShares_10 → ((12 ≤ l1_10 → post ((va_cpy v_longerChainShares_10 v_chainShares 0 0 12), v_longerChainShares_10)) ∧ (¬ 12 ≤ l1_10 → (vp_in l1_10 12 ∧ (∀ x26 : Int64, x26 = ((v_chainShares l1_10.toNatClampNeg) / 10000) → (∃ (I30 : Int32 → (Nat → Int64) → Prop) (μ30 : Int32 → (Nat → Int64) → Nat), I30 0 v_longerChainShares_10 ∧ ∀ (l4_30 : Int32) (v_longerChainShares_30 : (Nat → Int64)), I30 l4_30 v_longerChainShares_30 → ((12 ≤ l4_30 → I10 (l1_10 + 1) v_longerChainShares_30 ∧ μ10 (l1_10 + 1) v_longerChainShares_30 < μ10 l1_10 v_longerChainShares_10) ∧ (¬ 12 ≤ l4_30 → (vp_in l4_30 12 ∧ (vp_in ((l1_10 * 12) + l4_30) 144 ∧ (vp_in l4_30 12 ∧ I30 (l4_30 + 1) (vp_updL v_longerChainShares_30 l4_30.toNatClampNeg ((v_longerChainShares_30 l4_30.toNatClampNeg) + (x26 * (Int32.toInt64 (v_parts (Int32.toNatClampNeg ((l1_10 * 12) + l4_30))))))) ∧ μ30 (l4_30 + 1) (vp_updL v_longerChainShares_30 l4_30.toNatClampNeg ((v_longerChainShares_30 l4_30.toNatClampNeg) + (x26 * (Int32.toInt64 (v_parts (Int32.toNatClampNeg ((l1_10 * 12) + l4_30))))))) < μ30 l4_30 v_longerChainShares_30)))))))))))))
abbrev ws_H_addLink : List Cond := .code y_H_addLink prog_2_method_11_code 5 none :: kxW
abbrev rm_H_addLink : Room := { frames := 1, cells := 0, slots := 0, locals := 60 }
abbrev QC_H_addLink (dC : Nat → ClassId) (dI : Nat → Nat → Nat) (cI cL cZ : ClassId) (A : Nat → Prop)  (h0 a_parts a_chainLengths a_underControl a_shares a_chainShares a_longerChainShares : Nat) (v_parts : (Nat → Int32)) (v_chainShares : (Nat → Int64)) (v_longerChainShares : (Nat → Int64)) (post : ((Nat → Int64) × (Nat → Int64)) → Prop) : Array Value → State → Outcome → State → Prop := va_Qv post (fun (u : (Nat → Int64) × (Nat → Int64)) t => kx_B (dC, dI) classes A (WS_H_addLink cI cL cZ h0 a_parts a_chainLengths a_underControl a_shares a_chainShares a_longerChainShares v_parts u.1 u.2) t) A
set_option maxHeartbeats 4000000 in
set_option maxRecDepth 100000 in
theorem c_H_addLink (l : Launch) (dC : Nat → ClassId) (dI : Nat → Nat → Nat) (cI cL cZ : ClassId)  (h0 a_parts a_chainLengths a_underControl a_shares a_chainShares a_longerChainShares : Nat) (v_parts : (Nat → Int32)) (v_chainShares : (Nat → Int64)) (v_longerChainShares : (Nat → Int64)) (sz : Nat)  {post : ((Nat → Int64) × (Nat → Int64)) → Prop} (hw : wp_H_addLink v_parts v_chainShares v_longerChainShares post) : Met l y_H_addLink ws_H_addLink rm_H_addLink (kx_Pc (dC, dI) classes (kx_T cI cL cZ) (WS_H_addLink cI cL cZ h0 a_parts a_chainLengths a_underControl a_shares a_chainShares a_longerChainShares v_parts v_chainShares v_longerChainShares) sz [.ref h0]) (QC_H_addLink dC dI cI cL cZ (va_A (WS_H_addLink cI cL cZ h0 a_parts a_chainLengths a_underControl a_shares a_chainShares a_longerChainShares v_parts v_chainShares v_longerChainShares) sz) h0 a_parts a_chainLengths a_underControl a_shares a_chainShares a_longerChainShares v_parts v_chainShares v_longerChainShares post) 0 0 (va_A (WS_H_addLink cI cL cZ h0 a_parts a_chainLengths a_underControl a_shares a_chainShares a_longerChainShares v_parts v_chainShares v_longerChainShares) sz) := by
  refine Met.ofW (cc := prog_2_method_11_code) (maxL := 5) (ret := none) (by decide) rfl ?_
  intro p e s m args below meth c s₁ B hml hv
  obtain ⟨rfl, hsz, hP, hK, hD0, hN⟩ := hv
  have hx := B.exec
  have hb := B.bytes
  have hr := B.returns
  have hts := atoms_spec (ws := ws_H_addLink) B.pre
  have hown : s.vm.findClass R_H = some m.cls := findClass_of_methodNamed B.named
  have hlocks := B.notSynchronized
  subst hsz
  have hD := hD0.self (sz := s.heap.size)
  generalize hAe : va_A (WS_H_addLink cI cL cZ h0 a_parts a_chainLengths a_underControl a_shares a_chainShares a_longerChainShares v_parts v_chainShares v_longerChainShares) s.heap.size = A at hD ⊢
  have hA : ∀ q : Nat, s.heap.size ≤ q → A q := fun q h => by rw [← hAe]; exact Or.inr h
  have hS : va_S A s.heap s.heap [] := va_S.rf
  have hP : va_P (dC, dI) classes (WS_H_addLink cI cL cZ h0 a_parts a_chainLengths a_underControl a_shares a_chainShares a_longerChainShares v_parts v_chainShares v_longerChainShares) s.heap := hP
  have hl := lv_entry ([.ref h0]) (n := 5) (Nat.le_of_ble_eq_true rfl)
  rw [lg_entry_eq]
  generalize (lg_sl ([.ref h0]) ++ List.replicate (5 - (lg_sl ([.ref h0])).length) Slot.unset).toArray = ls at hl ⊢
  have hl : lv_has ls 5 [(0, .ref h0)] := hl
  unfold wp_H_addLink at hw
  refine (show ∀ (H : Heap) (locs : List Loc), va_P (dC, dI) classes (WS_H_addLink cI cL cZ h0 a_parts a_chainLengths a_underControl a_shares a_chainShares a_longerChainShares v_parts v_chainShares v_longerChainShares) H → va_S A s.heap H locs → W p l e (headSpec ws_H_addLink rm_H_addLink).room s m ([.ref h0] : List Value).toArray below meth c H locs 0 0 (MQ below (QC_H_addLink dC dI cI cL cZ A h0 a_parts a_chainLengths a_underControl a_shares a_chainShares a_longerChainShares v_parts v_chainShares v_longerChainShares post) ([.ref h0] : List Value).toArray s 0 0 A) (F0 m 0 ls []) from ?_) _ _ hP hS
  intro H locs hP hS
  refine lv_aload_n hx hb d_H_addLink_0 rfl (lv_at hl 0 rfl) ?_
  refine va_get (D := (dC, dI)) (ci := 0) (v := .ref a_longerChainShares) (C := R_H) (T := F_H) (N := 6) hx hb hts (kx_in in_H) hown hK hP 0 rfl rfl 5 (by decide) (hts _ (kx_w iw_33)) (fun _ h9 => h9) rfl d_H_addLink_1 ?_
  refine lv_lconst (v := 0) hx hb d_H_addLink_4 (by decide) ?_
  refine kx_callv (ws' := fun u5 => (WS_H_addLink cI cL cZ h0 a_parts a_chainLengths a_underControl a_shares a_chainShares a_longerChainShares v_parts v_chainShares u5)) (va_runS (As := [.ref a_longerChainShares, .long 0]) (rest := []) ⟨hx, hb, hml, hown, hts⟩ (c_A_fillJ l dC dI cI cL cZ 12 a_longerChainShares v_longerChainShares H.size 0 hw) ⟨(callB_of 2 hts (kx_good iw_173) rfl rfl rfl (hts _ (kx_w iw_5)) (hts _ (kx_w iw_171)) (by decide +kernel) ⟨Nat.le_of_ble_eq_true rfl, Nat.le_of_ble_eq_true rfl⟩), (hts _ (kx_w iw_172))⟩ (kx_preS hN hK hP hD [3] (by decide) rfl) rfl rfl hl.1 rfl (lv_room (Nat.le_of_ble_eq_true rfl)) d_H_addLink_5 ⟨Nat.le_of_ble_eq_true rfl, Nat.le_of_ble_eq_true rfl⟩) hP hD hS hA [3] [0, 1, 2] rfl rfl (by decide) (by decide) [0, 1, 2, 3] (by decide) (fun _ => rfl) (fun u5 H locs hw hP hD hS => ?_)
  have hP : va_P (dC, dI) classes (WS_H_addLink cI cL cZ h0 a_parts a_chainLengths a_underControl a_shares a_chainShares a_longerChainShares v_parts v_chainShares u5) H := hP
  have hD : va_D A (WS_H_addLink cI cL cZ h0 a_parts a_chainLengths a_underControl a_shares a_chainShares a_longerChainShares v_parts v_chainShares u5) := hD
  refine lv_iconst (v := 0) hx hb d_H_addLink_8 (by decide) ?_
  refine lv_istore_n (lv' := [(1, .int 0), (0, .ref h0)]) hx hb d_H_addLink_9 rfl hl (by decide) rfl (fun ls hl => ?_)
  have hl := lv_sub hl [1, 0] rfl
  obtain ⟨I10, μ10, hi10, hs10⟩ := hw
  have L10 : ∀ (n : Nat) (l1_10 : Int32) (v_longerChainShares_10 : (Nat → Int64)) (H : Heap) (locs : List Loc) (ls : Array Slot), μ10 l1_10 v_longerChainShares_10 < n → I10 l1_10 v_longerChainShares_10 → lv_has ls 5 [(0, .ref h0), (1, .int l1_10)] → va_P (dC, dI) classes (WS_H_addLink cI cL cZ h0 a_parts a_chainLengths a_underControl a_shares a_chainShares a_longerChainShares v_parts v_chainShares v_longerChainShares_10) H → va_D A (WS_H_addLink cI cL cZ h0 a_parts a_chainLengths a_underControl a_shares a_chainShares a_longerChainShares v_parts v_chainShares v_longerChainShares_10) → va_S A s.heap H locs → W p l e (headSpec ws_H_addLink rm_H_addLink).room s m ([.ref h0] : List Value).toArray below meth c H locs 0 0 (MQ below (QC_H_addLink dC dI cI cL cZ A h0 a_parts a_chainLengths a_underControl a_shares a_chainShares a_longerChainShares v_parts v_chainShares v_longerChainShares post) ([.ref h0] : List Value).toArray s 0 0 A) (F0 m 10 ls []) := by
    intro n
    induction n with
    | zero => intro l1_10 v_longerChainShares_10 H locs ls hn; exact absurd hn (Nat.not_lt_zero _)
    | succ n ih10 =>
      intro l1_10 v_longerChainShares_10 H locs ls hn10 hI hl hP hD hS
      have hw := hs10 l1_10 v_longerChainShares_10 hI
      refine lv_iload_n hx hb d_H_addLink_10 rfl (lv_at hl 1 rfl) ?_
      refine lv_bipush (v := 12) hx hb d_H_addLink_11 (by decide) ?_
      refine lv_icmp_ge (tgt := 74) hx hb d_H_addLink_13 rfl (fun hc => ?_) (fun hc => ?_)
      ·
        have hw := hw.1 hc
        refine lv_aload_n hx hb d_H_addLink_74 rfl (lv_at hl 0 rfl) ?_
        refine va_get (D := (dC, dI)) (ci := 0) (v := .ref a_longerChainShares) (C := R_H) (T := F_H) (N := 6) hx hb hts (kx_in in_H) hown hK hP 0 rfl rfl 5 (by decide) (hts _ (kx_w iw_33)) (fun _ h9 => h9) rfl d_H_addLink_75 ?_
        refine lv_iconst (v := 0) hx hb d_H_addLink_78 (by decide) ?_
        refine lv_aload_n hx hb d_H_addLink_79 rfl (lv_at hl 0 rfl) ?_
        refine va_get (D := (dC, dI)) (ci := 0) (v := .ref a_chainShares) (C := R_H) (T := F_H) (N := 6) hx hb hts (kx_in in_H) hown hK hP 0 rfl rfl 4 (by decide) (hts _ (kx_w iw_32)) (fun _ h9 => h9) rfl d_H_addLink_80 ?_
        refine lv_iconst (v := 0) hx hb d_H_addLink_83 (by decide) ?_
        refine lv_bipush (v := 12) hx hb d_H_addLink_84 (by decide) ?_
        refine va_copyl hx hb (by rw [hml]; exact hl.1.symm) hown (hts _ (kx_w iw_179)) (hts _ (kx_w iw_181)) (hts _ (kx_w iw_180)) (hts _ (kx_w iw_7)) hK hP hD hS 3 2 1 1 rfl rfl rfl rfl rfl (by decide) (by decide) (by decide) (by decide) (by decide) (fun _ _ => rfl) (Nat.le_of_ble_eq_true rfl) (Nat.le_of_ble_eq_true rfl) d_H_addLink_86 (fun H locs hP hD hS => ?_)
        have hP : va_P (dC, dI) classes (WS_H_addLink cI cL cZ h0 a_parts a_chainLengths a_underControl a_shares a_chainShares a_longerChainShares v_parts (va_cpy v_longerChainShares_10 v_chainShares 0 0 12) v_longerChainShares_10) H := hP
        have hD : va_D A (WS_H_addLink cI cL cZ h0 a_parts a_chainLengths a_underControl a_shares a_chainShares a_longerChainShares v_parts (va_cpy v_longerChainShares_10 v_chainShares 0 0 12) v_longerChainShares_10) := hD
        exact W.vret hx hb hr (fun t ht hW => ⟨⟨((va_cpy v_longerChainShares_10 v_chainShares 0 0 12), v_longerChainShares_10), rfl, hw, ⟨by rw [ht]; exact hP, hD⟩⟩, hS.F ht⟩) hS.2.2 d_H_addLink_89
      ·
        have hw := hw.2 hc
        refine lv_aload_n hx hb d_H_addLink_16 rfl (lv_at hl 0 rfl) ?_
        refine va_get (D := (dC, dI)) (ci := 0) (v := .ref a_chainShares) (C := R_H) (T := F_H) (N := 6) hx hb hts (kx_in in_H) hown hK hP 0 rfl rfl 4 (by decide) (hts _ (kx_w iw_32)) (fun _ h9 => h9) rfl d_H_addLink_17 ?_
        refine lv_iload_n hx hb d_H_addLink_20 rfl (lv_at hl 1 rfl) ?_
        obtain ⟨hi, hw⟩ := hw
        refine va_lald hx hb hK hP 2 1 rfl rfl hi d_H_addLink_21 ?_
        refine lv_ldc2 (v := 10000) hx hb hown (hts _ (kx_w iw_178)) d_H_addLink_22 ?_
        refine lv_ldiv hx hb d_H_addLink_25 (by decide) ?_
        refine lv_topl (fun x26 e26 => ?_)
        have hw := hw x26 e26
        refine lv_lstore_n (lv' := [(2, .long x26), (0, .ref h0), (1, .int l1_10)]) hx hb d_H_addLink_26 rfl hl (by decide) rfl (fun ls hl => ?_)
        refine lv_iconst (v := 0) hx hb d_H_addLink_27 (by decide) ?_
        refine lv_istore (lv' := [(4, .int 0), (2, .long x26), (0, .ref h0), (1, .int l1_10)]) hx hb d_H_addLink_28 hl (by decide) rfl (fun ls hl => ?_)
        have hl := lv_sub hl [2, 3, 1, 0] rfl
        obtain ⟨I30, μ30, hi30, hs30⟩ := hw
        have L30 : ∀ (n : Nat) (l4_30 : Int32) (v_longerChainShares_30 : (Nat → Int64)) (H : Heap) (locs : List Loc) (ls : Array Slot), μ30 l4_30 v_longerChainShares_30 < n → I30 l4_30 v_longerChainShares_30 → lv_has ls 5 [(0, .ref h0), (1, .int l1_10), (2, .long x26), (4, .int l4_30)] → va_P (dC, dI) classes (WS_H_addLink cI cL cZ h0 a_parts a_chainLengths a_underControl a_shares a_chainShares a_longerChainShares v_parts v_chainShares v_longerChainShares_30) H → va_D A (WS_H_addLink cI cL cZ h0 a_parts a_chainLengths a_underControl a_shares a_chainShares a_longerChainShares v_parts v_chainShares v_longerChainShares_30) → va_S A s.heap H locs → W p l e (headSpec ws_H_addLink rm_H_addLink).room s m ([.ref h0] : List Value).toArray below meth c H locs 0 0 (MQ below (QC_H_addLink dC dI cI cL cZ A h0 a_parts a_chainLengths a_underControl a_shares a_chainShares a_longerChainShares v_parts v_chainShares v_longerChainShares post) ([.ref h0] : List Value).toArray s 0 0 A) (F0 m 30 ls []) := by
          intro n
          induction n with
          | zero => intro l4_30 v_longerChainShares_30 H locs ls hn; exact absurd hn (Nat.not_lt_zero _)
          | succ n ih30 =>
            intro l4_30 v_longerChainShares_30 H locs ls hn30 hI hl hP hD hS
            have hw := hs30 l4_30 v_longerChainShares_30 hI
            refine lv_iload hx hb d_H_addLink_30 (lv_at hl 3 rfl) ?_
            refine lv_bipush (v := 12) hx hb d_H_addLink_32 (by decide) ?_
            refine lv_icmp_ge (tgt := 68) hx hb d_H_addLink_34 rfl (fun hc => ?_) (fun hc => ?_)
            ·
              have hw := hw.1 hc
              refine lv_iinc (v := (l1_10 + 1)) (lv' := [(1, .int (l1_10 + 1)), (0, .ref h0), (2, .long x26), (4, .int l4_30)]) hx hb d_H_addLink_68 hl (k := 1) rfl rfl (by decide) rfl (fun ls hl => ?_)
              refine lv_goto (tgt := 10) hx hb d_H_addLink_71 rfl ?_
              have hl := lv_sub hl [1, 0] rfl
              exact ih10 (l1_10 + 1) v_longerChainShares_30 _ _ _ (Nat.lt_of_lt_of_le hw.2 (Nat.le_of_lt_succ hn10)) hw.1 hl hP hD hS
            ·
              have hw := hw.2 hc
              refine lv_aload_n hx hb d_H_addLink_37 rfl (lv_at hl 0 rfl) ?_
              refine va_get (D := (dC, dI)) (ci := 0) (v := .ref a_longerChainShares) (C := R_H) (T := F_H) (N := 6) hx hb hts (kx_in in_H) hown hK hP 0 rfl rfl 5 (by decide) (hts _ (kx_w iw_33)) (fun _ h9 => h9) rfl d_H_addLink_38 ?_
              refine lv_iload hx hb d_H_addLink_41 (lv_at hl 3 rfl) ?_
              refine lv_dup2_11 hx hb d_H_addLink_43 rfl rfl ?_
              obtain ⟨hi, hw⟩ := hw
              refine va_lald hx hb hK hP 3 1 rfl rfl hi d_H_addLink_44 ?_
              refine lv_lload_n hx hb d_H_addLink_45 rfl (lv_at hl 2 rfl) ?_
              refine lv_aload_n hx hb d_H_addLink_46 rfl (lv_at hl 0 rfl) ?_
              refine va_get (D := (dC, dI)) (ci := 0) (v := .ref a_parts) (C := R_H) (T := F_H) (N := 6) hx hb hts (kx_in in_H) hown hK hP 0 rfl rfl 0 (by decide) (hts _ (kx_w iw_28)) (fun _ h9 => h9) rfl d_H_addLink_47 ?_
              refine lv_iload_n hx hb d_H_addLink_50 rfl (lv_at hl 1 rfl) ?_
              refine lv_bipush (v := 12) hx hb d_H_addLink_51 (by decide) ?_
              refine lv_imul hx hb d_H_addLink_53 ?_
              refine lv_iload hx hb d_H_addLink_54 (lv_at hl 3 rfl) ?_
              refine lv_iadd hx hb d_H_addLink_56 ?_
              obtain ⟨hi, hw⟩ := hw
              refine va_iald hx hb hK hP 1 0 rfl rfl hi d_H_addLink_57 ?_
              refine lv_i2l hx hb d_H_addLink_58 rfl ?_
              refine lv_lmul hx hb d_H_addLink_59 ?_
              refine lv_ladd hx hb d_H_addLink_60 ?_
              obtain ⟨hi, hw⟩ := hw
              refine va_last hx hb hK hP hD hS 3 1 rfl rfl hi d_H_addLink_61 (fun H locs hP hD hS => ?_)
              have hP : va_P (dC, dI) classes (WS_H_addLink cI cL cZ h0 a_parts a_chainLengths a_underControl a_shares a_chainShares a_longerChainShares v_parts v_chainShares (vp_updL v_longerChainShares_30 l4_30.toNatClampNeg ((v_longerChainShares_30 l4_30.toNatClampNeg) + (x26 * (Int32.toInt64 (v_parts (Int32.toNatClampNeg ((l1_10 * 12) + l4_30)))))))) H := hP
              have hD : va_D A (WS_H_addLink cI cL cZ h0 a_parts a_chainLengths a_underControl a_shares a_chainShares a_longerChainShares v_parts v_chainShares (vp_updL v_longerChainShares_30 l4_30.toNatClampNeg ((v_longerChainShares_30 l4_30.toNatClampNeg) + (x26 * (Int32.toInt64 (v_parts (Int32.toNatClampNeg ((l1_10 * 12) + l4_30)))))))) := hD
              refine lv_iinc (v := (l4_30 + 1)) (lv' := [(4, .int (l4_30 + 1)), (0, .ref h0), (1, .int l1_10), (2, .long x26)]) hx hb d_H_addLink_62 hl (k := 3) rfl rfl (by decide) rfl (fun ls hl => ?_)
              refine lv_goto (tgt := 30) hx hb d_H_addLink_65 rfl ?_
              have hl := lv_sub hl [1, 2, 3, 0] rfl
              exact ih30 (l4_30 + 1) (vp_updL v_longerChainShares_30 l4_30.toNatClampNeg ((v_longerChainShares_30 l4_30.toNatClampNeg) + (x26 * (Int32.toInt64 (v_parts (Int32.toNatClampNeg ((l1_10 * 12) + l4_30))))))) _ _ _ (Nat.lt_of_lt_of_le hw.2 (Nat.le_of_lt_succ hn30)) hw.1 hl hP hD hS
        exact L30 _ 0 v_longerChainShares_10 _ _ _ (Nat.lt_succ_self _) hi30 hl hP hD hS
  exact L10 _ 0 u5 _ _ _ (Nat.lt_succ_self _) hi10 hl hP hD hS
/-! ConsolidationDesk$Holdings.findShares()V -/
abbrev y_H_findShares : MethodName := ⟨"ConsolidationDesk$Holdings", "findShares", "()V"⟩
theorem d_H_findShares_0 : decode prog_2_method_10_code 0 = .ok (.aload_n 0, 1) := by decide +kernel
theorem d_H_findShares_1 : decode prog_2_method_10_code 1 = .ok (.getfield 22, 3) := by decide +kernel
theorem d_H_findShares_4 : decode prog_2_method_10_code 4 = .ok (.lconst 0, 1) := by decide +kernel
theorem d_H_findShares_5 : decode prog_2_method_10_code 5 = .ok (.invokestatic 66, 3) := by decide +kernel
theorem d_H_findShares_8 : decode prog_2_method_10_code 8 = .ok (.aload_n 0, 1) := by decide +kernel
theorem d_H_findShares_9 : decode prog_2_method_10_code 9 = .ok (.getfield 22, 3) := by decide +kernel
theorem d_H_findShares_12 : decode prog_2_method_10_code 12 = .ok (.iconst 0, 1) := by decide +kernel
theorem d_H_findShares_13 : decode prog_2_method_10_code 13 = .ok (.ldc2_w 32, 3) := by decide +kernel
theorem d_H_findShares_16 : decode prog_2_method_10_code 16 = .ok (.lastore, 1) := by decide +kernel
theorem d_H_findShares_17 : decode prog_2_method_10_code 17 = .ok (.aload_n 0, 1) := by decide +kernel
theorem d_H_findShares_18 : decode prog_2_method_10_code 18 = .ok (.getfield 26, 3) := by decide +kernel
theorem d_H_findShares_21 : decode prog_2_method_10_code 21 = .ok (.lconst 0, 1) := by decide +kernel
theorem d_H_findShares_22 : decode prog_2_method_10_code 22 = .ok (.invokestatic 66, 3) := by decide +kernel
theorem d_H_findShares_25 : decode prog_2_method_10_code 25 = .ok (.aload_n 0, 1) := by decide +kernel
theorem d_H_findShares_26 : decode prog_2_method_10_code 26 = .ok (.getfield 26, 3) := by decide +kernel
theorem d_H_findShares_29 : decode prog_2_method_10_code 29 = .ok (.iconst 0, 1) := by decide +kernel
theorem d_H_findShares_30 : decode prog_2_method_10_code 30 = .ok (.ldc2_w 32, 3) := by decide +kernel
theorem d_H_findShares_33 : decode prog_2_method_10_code 33 = .ok (.lastore, 1) := by decide +kernel
theorem d_H_findShares_34 : decode prog_2_method_10_code 34 = .ok (.iconst 1, 1) := by decide +kernel
theorem d_H_findShares_35 : decode prog_2_method_10_code 35 = .ok (.istore_n 1, 1) := by decide +kernel
theorem d_H_findShares_36 : decode prog_2_method_10_code 36 = .ok (.iload_n 1, 1) := by decide +kernel
theorem d_H_findShares_37 : decode prog_2_method_10_code 37 = .ok (.iconst 4, 1) := by decide +kernel
theorem d_H_findShares_38 : decode prog_2_method_10_code 38 = .ok (.if_icmp .gt 42, 3) := by decide +kernel
theorem d_H_findShares_41 : decode prog_2_method_10_code 41 = .ok (.aload_n 0, 1) := by decide +kernel
theorem d_H_findShares_42 : decode prog_2_method_10_code 42 = .ok (.invokevirtual 69, 3) := by decide +kernel
theorem d_H_findShares_45 : decode prog_2_method_10_code 45 = .ok (.iconst 0, 1) := by decide +kernel
theorem d_H_findShares_46 : decode prog_2_method_10_code 46 = .ok (.istore_n 2, 1) := by decide +kernel
theorem d_H_findShares_47 : decode prog_2_method_10_code 47 = .ok (.iload_n 2, 1) := by decide +kernel
theorem d_H_findShares_48 : decode prog_2_method_10_code 48 = .ok (.bipush 12, 2) := by decide +kernel
theorem d_H_findShares_50 : decode prog_2_method_10_code 50 = .ok (.if_icmp .ge 24, 3) := by decide +kernel
theorem d_H_findShares_53 : decode prog_2_method_10_code 53 = .ok (.aload_n 0, 1) := by decide +kernel
theorem d_H_findShares_54 : decode prog_2_method_10_code 54 = .ok (.getfield 22, 3) := by decide +kernel
theorem d_H_findShares_57 : decode prog_2_method_10_code 57 = .ok (.iload_n 2, 1) := by decide +kernel
theorem d_H_findShares_58 : decode prog_2_method_10_code 58 = .ok (.dup2, 1) := by decide +kernel
theorem d_H_findShares_59 : decode prog_2_method_10_code 59 = .ok (.laload, 1) := by decide +kernel
theorem d_H_findShares_60 : decode prog_2_method_10_code 60 = .ok (.aload_n 0, 1) := by decide +kernel
theorem d_H_findShares_61 : decode prog_2_method_10_code 61 = .ok (.getfield 26, 3) := by decide +kernel
theorem d_H_findShares_64 : decode prog_2_method_10_code 64 = .ok (.iload_n 2, 1) := by decide +kernel
theorem d_H_findShares_65 : decode prog_2_method_10_code 65 = .ok (.laload, 1) := by decide +kernel
theorem d_H_findShares_66 : decode prog_2_method_10_code 66 = .ok (.ladd, 1) := by decide +kernel
theorem d_H_findShares_67 : decode prog_2_method_10_code 67 = .ok (.lastore, 1) := by decide +kernel
theorem d_H_findShares_68 : decode prog_2_method_10_code 68 = .ok (.iinc 2 1, 3) := by decide +kernel
theorem d_H_findShares_71 : decode prog_2_method_10_code 71 = .ok (.goto (-24), 3) := by decide +kernel
theorem d_H_findShares_74 : decode prog_2_method_10_code 74 = .ok (.iinc 1 1, 3) := by decide +kernel
theorem d_H_findShares_77 : decode prog_2_method_10_code 77 = .ok (.goto (-41), 3) := by decide +kernel
theorem d_H_findShares_80 : decode prog_2_method_10_code 80 = .ok (.return_, 1) := by decide +kernel
abbrev WS_H_findShares (cI cL cZ : ClassId)  (h0 a_parts a_chainLengths a_underControl a_shares a_chainShares a_longerChainShares : Nat) (v_parts : (Nat → Int32)) (v_shares : (Nat → Int64)) (v_chainShares : (Nat → Int64)) (v_longerChainShares : (Nat → Int64)) : va_W := [(h0, .inr (0, [.ref a_parts, .ref a_chainLengths, .ref a_underControl, .ref a_shares, .ref a_chainShares, .ref a_longerChainShares])), (a_parts, .inl (cI, 144, .inl v_parts)), (a_shares, .inl (cL, 12, .inr (.inl v_shares))), (a_chainShares, .inl (cL, 12, .inr (.inl v_chainShares))), (a_longerChainShares, .inl (cL, 12, .inr (.inl v_longerChainShares)))]
def wp_H_findShares   (v_parts : (Nat → Int32)) (v_shares : (Nat → Int64)) (v_chainShares : (Nat → Int64)) (v_longerChainShares : (Nat → Int64)) (post : ((Nat → Int64) × (Nat → Int64) × (Nat → Int64)) → Prop) : Prop := (wp_A_fillJ 12 0 v_shares (fun (u5 : (Nat → Int64)) => (wp_A_fillJ 12 0 v_chainShares (fun (u22 : (Nat → Int64)) => (∃ (I36 : Int32 → (Nat → Int64) → (Nat → Int64) → (Nat → Int64) → Prop) (μ36 : Int32 → (Nat → Int64) → (Nat → Int64) → (Nat → Int64) → Nat), I36 1 (vp_updL u5 0 10000000000000000) (vp_updL u22 0 10000000000000000) v_longerChainShares ∧ ∀ (l1_36 : Int32) (v_shares_36 : (Nat → Int64)) (v_chainShares_36 : (Nat → Int64)) (v_longerChainShares_36 : (Nat → Int64)), I36 l1_36 v_shares_36 v_chainShares_36 v_longerChainShares_36 → ((4 < l1_36 → post (v_shares_36, v_chainShares_36, v_longerChainShares_36)) ∧ (¬ 4 < l1_36 → (wp_H_addLink v_parts v_chainShares_36 v_longerChainShares_36 (fun (u42 : (Nat → Int64) × (Nat → Int64)) => (∃ (I47 : Int32 → (Nat → Int64) → Prop) (μ47 : Int32 → (Nat → Int64) → Nat), I47 0 v_shares_36 ∧ ∀ (l2_47 : Int32) (v_shares_47 : (Nat → Int64)), I47 l2_47 v_shares_47 → ((12 ≤ l2_47 → I36 (l1_36 + 1) v_shares_47 u42.1 u42.2 ∧ μ36 (l1_36 + 1) v_shares_47 u42.1 u42.2 < μ36 l1_36 v_shares_36 v_chainShares_36 v_longerChainShares_36) ∧ (¬ 12 ≤ l2_47 → (vp_in l2_47 12 ∧ (vp_in l2_47 12 ∧ (vp_in l2_47 12 ∧ I47 (l2_47 + 1) (vp_updL v_shares_47 l2_47.toNatClampNeg ((v_shares_47 l2_47.toNatClampNeg) + (u42.1 l2_47.toNatClampNeg))) ∧ μ47 (l2_47 + 1) (vp_updL v_shares_47 l2_47.toNatClampNeg ((v_shares_47 l2_47.toNatClampNeg) + (u42.1 l2_47.toNatClampNeg))) < μ47 l2_47 v_shares_47)))))))))))))))
abbrev ws_H_findShares : List Cond := .code y_H_findShares prog_2_method_10_code 3 none :: kxW
abbrev rm_H_findShares : Room := { frames := 2, cells := 0, slots := 0, locals := 84 }
abbrev QC_H_findShares (dC : Nat → ClassId) (dI : Nat → Nat → Nat) (cI cL cZ : ClassId) (A : Nat → Prop)  (h0 a_parts a_chainLengths a_underControl a_shares a_chainShares a_longerChainShares : Nat) (v_parts : (Nat → Int32)) (v_shares : (Nat → Int64)) (v_chainShares : (Nat → Int64)) (v_longerChainShares : (Nat → Int64)) (post : ((Nat → Int64) × (Nat → Int64) × (Nat → Int64)) → Prop) : Array Value → State → Outcome → State → Prop := va_Qv post (fun (u : (Nat → Int64) × (Nat → Int64) × (Nat → Int64)) t => kx_B (dC, dI) classes A (WS_H_findShares cI cL cZ h0 a_parts a_chainLengths a_underControl a_shares a_chainShares a_longerChainShares v_parts u.1 u.2.1 u.2.2) t) A
set_option maxHeartbeats 4000000 in
set_option maxRecDepth 100000 in
theorem c_H_findShares (l : Launch) (dC : Nat → ClassId) (dI : Nat → Nat → Nat) (cI cL cZ : ClassId)  (h0 a_parts a_chainLengths a_underControl a_shares a_chainShares a_longerChainShares : Nat) (v_parts : (Nat → Int32)) (v_shares : (Nat → Int64)) (v_chainShares : (Nat → Int64)) (v_longerChainShares : (Nat → Int64)) (sz : Nat)  {post : ((Nat → Int64) × (Nat → Int64) × (Nat → Int64)) → Prop} (hw : wp_H_findShares v_parts v_shares v_chainShares v_longerChainShares post) : Met l y_H_findShares ws_H_findShares rm_H_findShares (kx_Pc (dC, dI) classes (kx_T cI cL cZ) (WS_H_findShares cI cL cZ h0 a_parts a_chainLengths a_underControl a_shares a_chainShares a_longerChainShares v_parts v_shares v_chainShares v_longerChainShares) sz [.ref h0]) (QC_H_findShares dC dI cI cL cZ (va_A (WS_H_findShares cI cL cZ h0 a_parts a_chainLengths a_underControl a_shares a_chainShares a_longerChainShares v_parts v_shares v_chainShares v_longerChainShares) sz) h0 a_parts a_chainLengths a_underControl a_shares a_chainShares a_longerChainShares v_parts v_shares v_chainShares v_longerChainShares post) 0 0 (va_A (WS_H_findShares cI cL cZ h0 a_parts a_chainLengths a_underControl a_shares a_chainShares a_longerChainShares v_parts v_shares v_chainShares v_longerChainShares) sz) := by
  refine Met.ofW (cc := prog_2_method_10_code) (maxL := 3) (ret := none) (by decide) rfl ?_
  intro p e s m args below meth c s₁ B hml hv
  obtain ⟨rfl, hsz, hP, hK, hD0, hN⟩ := hv
  have hx := B.exec
  have hb := B.bytes
  have hr := B.returns
  have hts := atoms_spec (ws := ws_H_findShares) B.pre
  have hown : s.vm.findClass R_H = some m.cls := findClass_of_methodNamed B.named
  have hlocks := B.notSynchronized
  subst hsz
  have hD := hD0.self (sz := s.heap.size)
  generalize hAe : va_A (WS_H_findShares cI cL cZ h0 a_parts a_chainLengths a_underControl a_shares a_chainShares a_longerChainShares v_parts v_shares v_chainShares v_longerChainShares) s.heap.size = A at hD ⊢
  have hA : ∀ q : Nat, s.heap.size ≤ q → A q := fun q h => by rw [← hAe]; exact Or.inr h
  have hS : va_S A s.heap s.heap [] := va_S.rf
  have hP : va_P (dC, dI) classes (WS_H_findShares cI cL cZ h0 a_parts a_chainLengths a_underControl a_shares a_chainShares a_longerChainShares v_parts v_shares v_chainShares v_longerChainShares) s.heap := hP
  have hl := lv_entry ([.ref h0]) (n := 3) (Nat.le_of_ble_eq_true rfl)
  rw [lg_entry_eq]
  generalize (lg_sl ([.ref h0]) ++ List.replicate (3 - (lg_sl ([.ref h0])).length) Slot.unset).toArray = ls at hl ⊢
  have hl : lv_has ls 3 [(0, .ref h0)] := hl
  unfold wp_H_findShares at hw
  refine (show ∀ (H : Heap) (locs : List Loc), va_P (dC, dI) classes (WS_H_findShares cI cL cZ h0 a_parts a_chainLengths a_underControl a_shares a_chainShares a_longerChainShares v_parts v_shares v_chainShares v_longerChainShares) H → va_S A s.heap H locs → W p l e (headSpec ws_H_findShares rm_H_findShares).room s m ([.ref h0] : List Value).toArray below meth c H locs 0 0 (MQ below (QC_H_findShares dC dI cI cL cZ A h0 a_parts a_chainLengths a_underControl a_shares a_chainShares a_longerChainShares v_parts v_shares v_chainShares v_longerChainShares post) ([.ref h0] : List Value).toArray s 0 0 A) (F0 m 0 ls []) from ?_) _ _ hP hS
  intro H locs hP hS
  refine lv_aload_n hx hb d_H_findShares_0 rfl (lv_at hl 0 rfl) ?_
  refine va_get (D := (dC, dI)) (ci := 0) (v := .ref a_shares) (C := R_H) (T := F_H) (N := 6) hx hb hts (kx_in in_H) hown hK hP 0 rfl rfl 3 (by decide) (hts _ (kx_w iw_31)) (fun _ h9 => h9) rfl d_H_findShares_1 ?_
  refine lv_lconst (v := 0) hx hb d_H_findShares_4 (by decide) ?_
  refine kx_callv (ws' := fun u5 => (WS_H_findShares cI cL cZ h0 a_parts a_chainLengths a_underControl a_shares a_chainShares a_longerChainShares v_parts u5 v_chainShares v_longerChainShares)) (va_runS (As := [.ref a_shares, .long 0]) (rest := []) ⟨hx, hb, hml, hown, hts⟩ (c_A_fillJ l dC dI cI cL cZ 12 a_shares v_shares H.size 0 hw) ⟨(callB_of 2 hts (kx_good iw_173) rfl rfl rfl (hts _ (kx_w iw_5)) (hts _ (kx_w iw_171)) (by decide +kernel) ⟨Nat.le_of_ble_eq_true rfl, Nat.le_of_ble_eq_true rfl⟩), (hts _ (kx_w iw_172))⟩ (kx_preS hN hK hP hD [2] (by decide) rfl) rfl rfl hl.1 rfl (lv_room (Nat.le_of_ble_eq_true rfl)) d_H_findShares_5 ⟨Nat.le_of_ble_eq_true rfl, Nat.le_of_ble_eq_true rfl⟩) hP hD hS hA [2] [0, 1, 3, 4] rfl rfl (by decide) (by decide) [0, 1, 4, 2, 3] (by decide) (fun _ => rfl) (fun u5 H locs hw hP hD hS => ?_)
  have hP : va_P (dC, dI) classes (WS_H_findShares cI cL cZ h0 a_parts a_chainLengths a_underControl a_shares a_chainShares a_longerChainShares v_parts u5 v_chainShares v_longerChainShares) H := hP
  have hD : va_D A (WS_H_findShares cI cL cZ h0 a_parts a_chainLengths a_underControl a_shares a_chainShares a_longerChainShares v_parts u5 v_chainShares v_longerChainShares) := hD
  refine lv_aload_n hx hb d_H_findShares_8 rfl (lv_at hl 0 rfl) ?_
  refine va_get (D := (dC, dI)) (ci := 0) (v := .ref a_shares) (C := R_H) (T := F_H) (N := 6) hx hb hts (kx_in in_H) hown hK hP 0 rfl rfl 3 (by decide) (hts _ (kx_w iw_31)) (fun _ h9 => h9) rfl d_H_findShares_9 ?_
  refine lv_iconst (v := 0) hx hb d_H_findShares_12 (by decide) ?_
  refine lv_ldc2 (v := 10000000000000000) hx hb hown (hts _ (kx_w iw_27)) d_H_findShares_13 ?_
  refine va_last hx hb hK hP hD hS 2 1 rfl rfl (show vp_in 0 12 by unfold vp_in; decide) d_H_findShares_16 (fun H locs hP hD hS => ?_)
  have hP : va_P (dC, dI) classes (WS_H_findShares cI cL cZ h0 a_parts a_chainLengths a_underControl a_shares a_chainShares a_longerChainShares v_parts (vp_updL u5 0 10000000000000000) v_chainShares v_longerChainShares) H := hP
  have hD : va_D A (WS_H_findShares cI cL cZ h0 a_parts a_chainLengths a_underControl a_shares a_chainShares a_longerChainShares v_parts (vp_updL u5 0 10000000000000000) v_chainShares v_longerChainShares) := hD
  refine lv_aload_n hx hb d_H_findShares_17 rfl (lv_at hl 0 rfl) ?_
  refine va_get (D := (dC, dI)) (ci := 0) (v := .ref a_chainShares) (C := R_H) (T := F_H) (N := 6) hx hb hts (kx_in in_H) hown hK hP 0 rfl rfl 4 (by decide) (hts _ (kx_w iw_32)) (fun _ h9 => h9) rfl d_H_findShares_18 ?_
  refine lv_lconst (v := 0) hx hb d_H_findShares_21 (by decide) ?_
  refine kx_callv (ws' := fun u22 => (WS_H_findShares cI cL cZ h0 a_parts a_chainLengths a_underControl a_shares a_chainShares a_longerChainShares v_parts (vp_updL u5 0 10000000000000000) u22 v_longerChainShares)) (va_runS (As := [.ref a_chainShares, .long 0]) (rest := []) ⟨hx, hb, hml, hown, hts⟩ (c_A_fillJ l dC dI cI cL cZ 12 a_chainShares v_chainShares H.size 0 hw) ⟨(callB_of 2 hts (kx_good iw_173) rfl rfl rfl (hts _ (kx_w iw_5)) (hts _ (kx_w iw_171)) (by decide +kernel) ⟨Nat.le_of_ble_eq_true rfl, Nat.le_of_ble_eq_true rfl⟩), (hts _ (kx_w iw_172))⟩ (kx_preS hN hK hP hD [3] (by decide) rfl) rfl rfl hl.1 rfl (lv_room (Nat.le_of_ble_eq_true rfl)) d_H_findShares_22 ⟨Nat.le_of_ble_eq_true rfl, Nat.le_of_ble_eq_true rfl⟩) hP hD hS hA [3] [0, 1, 2, 4] rfl rfl (by decide) (by decide) [0, 1, 2, 4, 3] (by decide) (fun _ => rfl) (fun u22 H locs hw hP hD hS => ?_)
  have hP : va_P (dC, dI) classes (WS_H_findShares cI cL cZ h0 a_parts a_chainLengths a_underControl a_shares a_chainShares a_longerChainShares v_parts (vp_updL u5 0 10000000000000000) u22 v_longerChainShares) H := hP
  have hD : va_D A (WS_H_findShares cI cL cZ h0 a_parts a_chainLengths a_underControl a_shares a_chainShares a_longerChainShares v_parts (vp_updL u5 0 10000000000000000) u22 v_longerChainShares) := hD
  refine lv_aload_n hx hb d_H_findShares_25 rfl (lv_at hl 0 rfl) ?_
  refine va_get (D := (dC, dI)) (ci := 0) (v := .ref a_chainShares) (C := R_H) (T := F_H) (N := 6) hx hb hts (kx_in in_H) hown hK hP 0 rfl rfl 4 (by decide) (hts _ (kx_w iw_32)) (fun _ h9 => h9) rfl d_H_findShares_26 ?_
  refine lv_iconst (v := 0) hx hb d_H_findShares_29 (by decide) ?_
  refine lv_ldc2 (v := 10000000000000000) hx hb hown (hts _ (kx_w iw_27)) d_H_findShares_30 ?_
  refine va_last hx hb hK hP hD hS 3 1 rfl rfl (show vp_in 0 12 by unfold vp_in; decide) d_H_findShares_33 (fun H locs hP hD hS => ?_)
  have hP : va_P (dC, dI) classes (WS_H_findShares cI cL cZ h0 a_parts a_chainLengths a_underControl a_shares a_chainShares a_longerChainShares v_parts (vp_updL u5 0 10000000000000000) (vp_updL u22 0 10000000000000000) v_longerChainShares) H := hP
  have hD : va_D A (WS_H_findShares cI cL cZ h0 a_parts a_chainLengths a_underControl a_shares a_chainShares a_longerChainShares v_parts (vp_updL u5 0 10000000000000000) (vp_updL u22 0 10000000000000000) v_longerChainShares) := hD
  refine lv_iconst (v := 1) hx hb d_H_findShares_34 (by decide) ?_
  refine lv_istore_n (lv' := [(1, .int 1), (0, .ref h0)]) hx hb d_H_findShares_35 rfl hl (by decide) rfl (fun ls hl => ?_)
  have hl := lv_sub hl [1, 0] rfl
  obtain ⟨I36, μ36, hi36, hs36⟩ := hw
  have L36 : ∀ (n : Nat) (l1_36 : Int32) (v_shares_36 : (Nat → Int64)) (v_chainShares_36 : (Nat → Int64)) (v_longerChainShares_36 : (Nat → Int64)) (H : Heap) (locs : List Loc) (ls : Array Slot), μ36 l1_36 v_shares_36 v_chainShares_36 v_longerChainShares_36 < n → I36 l1_36 v_shares_36 v_chainShares_36 v_longerChainShares_36 → lv_has ls 3 [(0, .ref h0), (1, .int l1_36)] → va_P (dC, dI) classes (WS_H_findShares cI cL cZ h0 a_parts a_chainLengths a_underControl a_shares a_chainShares a_longerChainShares v_parts v_shares_36 v_chainShares_36 v_longerChainShares_36) H → va_D A (WS_H_findShares cI cL cZ h0 a_parts a_chainLengths a_underControl a_shares a_chainShares a_longerChainShares v_parts v_shares_36 v_chainShares_36 v_longerChainShares_36) → va_S A s.heap H locs → W p l e (headSpec ws_H_findShares rm_H_findShares).room s m ([.ref h0] : List Value).toArray below meth c H locs 0 0 (MQ below (QC_H_findShares dC dI cI cL cZ A h0 a_parts a_chainLengths a_underControl a_shares a_chainShares a_longerChainShares v_parts v_shares v_chainShares v_longerChainShares post) ([.ref h0] : List Value).toArray s 0 0 A) (F0 m 36 ls []) := by
    intro n
    induction n with
    | zero => intro l1_36 v_shares_36 v_chainShares_36 v_longerChainShares_36 H locs ls hn; exact absurd hn (Nat.not_lt_zero _)
    | succ n ih36 =>
      intro l1_36 v_shares_36 v_chainShares_36 v_longerChainShares_36 H locs ls hn36 hI hl hP hD hS
      have hw := hs36 l1_36 v_shares_36 v_chainShares_36 v_longerChainShares_36 hI
      refine lv_iload_n hx hb d_H_findShares_36 rfl (lv_at hl 1 rfl) ?_
      refine lv_iconst (v := 4) hx hb d_H_findShares_37 (by decide) ?_
      refine lv_icmp_gt (tgt := 80) hx hb d_H_findShares_38 rfl (fun hc => ?_) (fun hc => ?_)
      ·
        have hw := hw.1 hc
        exact W.vret hx hb hr (fun t ht hW => ⟨⟨(v_shares_36, v_chainShares_36, v_longerChainShares_36), rfl, hw, ⟨by rw [ht]; exact hP, hD⟩⟩, hS.F ht⟩) hS.2.2 d_H_findShares_80
      ·
        have hw := hw.2 hc
        refine lv_aload_n hx hb d_H_findShares_41 rfl (lv_at hl 0 rfl) ?_
        refine kx_callv (ws' := fun u42 => (WS_H_findShares cI cL cZ h0 a_parts a_chainLengths a_underControl a_shares a_chainShares a_longerChainShares v_parts v_shares_36 u42.1 u42.2)) (va_runV (As := []) (rest := []) ⟨hx, hb, hml, hown, hts⟩ (c_H_addLink l dC dI cI cL cZ h0 a_parts a_chainLengths a_underControl a_shares a_chainShares a_longerChainShares v_parts v_chainShares_36 v_longerChainShares_36 H.size  hw) ⟨(callB_of 0 hts (kx_good iw_177) rfl rfl rfl (hts _ (kx_w iw_2)) (hts _ (kx_w iw_174)) (by decide +kernel) ⟨Nat.le_of_ble_eq_true rfl, Nat.le_of_ble_eq_true rfl⟩), (hts _ (kx_w iw_176)), (hts _ (kx_w sl_H_addLink))⟩ (kx_preV hN hK hP hD [0, 1, 3, 4] (by decide) rfl 0 rfl rfl) rfl rfl hl.1 rfl (lv_room (Nat.le_of_ble_eq_true rfl)) d_H_findShares_42 ⟨Nat.le_of_ble_eq_true rfl, Nat.le_of_ble_eq_true rfl⟩) hP hD hS hA [0, 1, 3, 4] [2] rfl rfl (by decide) (by decide) [1, 2, 0, 3, 4] (by decide) (fun _ => rfl) (fun u42 H locs hw hP hD hS => ?_)
        have hP : va_P (dC, dI) classes (WS_H_findShares cI cL cZ h0 a_parts a_chainLengths a_underControl a_shares a_chainShares a_longerChainShares v_parts v_shares_36 u42.1 u42.2) H := hP
        have hD : va_D A (WS_H_findShares cI cL cZ h0 a_parts a_chainLengths a_underControl a_shares a_chainShares a_longerChainShares v_parts v_shares_36 u42.1 u42.2) := hD
        refine lv_iconst (v := 0) hx hb d_H_findShares_45 (by decide) ?_
        refine lv_istore_n (lv' := [(2, .int 0), (0, .ref h0), (1, .int l1_36)]) hx hb d_H_findShares_46 rfl hl (by decide) rfl (fun ls hl => ?_)
        have hl := lv_sub hl [1, 2, 0] rfl
        obtain ⟨I47, μ47, hi47, hs47⟩ := hw
        have L47 : ∀ (n : Nat) (l2_47 : Int32) (v_shares_47 : (Nat → Int64)) (H : Heap) (locs : List Loc) (ls : Array Slot), μ47 l2_47 v_shares_47 < n → I47 l2_47 v_shares_47 → lv_has ls 3 [(0, .ref h0), (1, .int l1_36), (2, .int l2_47)] → va_P (dC, dI) classes (WS_H_findShares cI cL cZ h0 a_parts a_chainLengths a_underControl a_shares a_chainShares a_longerChainShares v_parts v_shares_47 u42.1 u42.2) H → va_D A (WS_H_findShares cI cL cZ h0 a_parts a_chainLengths a_underControl a_shares a_chainShares a_longerChainShares v_parts v_shares_47 u42.1 u42.2) → va_S A s.heap H locs → W p l e (headSpec ws_H_findShares rm_H_findShares).room s m ([.ref h0] : List Value).toArray below meth c H locs 0 0 (MQ below (QC_H_findShares dC dI cI cL cZ A h0 a_parts a_chainLengths a_underControl a_shares a_chainShares a_longerChainShares v_parts v_shares v_chainShares v_longerChainShares post) ([.ref h0] : List Value).toArray s 0 0 A) (F0 m 47 ls []) := by
          intro n
          induction n with
          | zero => intro l2_47 v_shares_47 H locs ls hn; exact absurd hn (Nat.not_lt_zero _)
          | succ n ih47 =>
            intro l2_47 v_shares_47 H locs ls hn47 hI hl hP hD hS
            have hw := hs47 l2_47 v_shares_47 hI
            refine lv_iload_n hx hb d_H_findShares_47 rfl (lv_at hl 2 rfl) ?_
            refine lv_bipush (v := 12) hx hb d_H_findShares_48 (by decide) ?_
            refine lv_icmp_ge (tgt := 74) hx hb d_H_findShares_50 rfl (fun hc => ?_) (fun hc => ?_)
            ·
              have hw := hw.1 hc
              refine lv_iinc (v := (l1_36 + 1)) (lv' := [(1, .int (l1_36 + 1)), (0, .ref h0), (2, .int l2_47)]) hx hb d_H_findShares_74 hl (k := 1) rfl rfl (by decide) rfl (fun ls hl => ?_)
              refine lv_goto (tgt := 36) hx hb d_H_findShares_77 rfl ?_
              have hl := lv_sub hl [1, 0] rfl
              exact ih36 (l1_36 + 1) v_shares_47 u42.1 u42.2 _ _ _ (Nat.lt_of_lt_of_le hw.2 (Nat.le_of_lt_succ hn36)) hw.1 hl hP hD hS
            ·
              have hw := hw.2 hc
              refine lv_aload_n hx hb d_H_findShares_53 rfl (lv_at hl 0 rfl) ?_
              refine va_get (D := (dC, dI)) (ci := 0) (v := .ref a_shares) (C := R_H) (T := F_H) (N := 6) hx hb hts (kx_in in_H) hown hK hP 0 rfl rfl 3 (by decide) (hts _ (kx_w iw_31)) (fun _ h9 => h9) rfl d_H_findShares_54 ?_
              refine lv_iload_n hx hb d_H_findShares_57 rfl (lv_at hl 2 rfl) ?_
              refine lv_dup2_11 hx hb d_H_findShares_58 rfl rfl ?_
              obtain ⟨hi, hw⟩ := hw
              refine va_lald hx hb hK hP 2 1 rfl rfl hi d_H_findShares_59 ?_
              refine lv_aload_n hx hb d_H_findShares_60 rfl (lv_at hl 0 rfl) ?_
              refine va_get (D := (dC, dI)) (ci := 0) (v := .ref a_chainShares) (C := R_H) (T := F_H) (N := 6) hx hb hts (kx_in in_H) hown hK hP 0 rfl rfl 4 (by decide) (hts _ (kx_w iw_32)) (fun _ h9 => h9) rfl d_H_findShares_61 ?_
              refine lv_iload_n hx hb d_H_findShares_64 rfl (lv_at hl 2 rfl) ?_
              obtain ⟨hi, hw⟩ := hw
              refine va_lald hx hb hK hP 3 1 rfl rfl hi d_H_findShares_65 ?_
              refine lv_ladd hx hb d_H_findShares_66 ?_
              obtain ⟨hi, hw⟩ := hw
              refine va_last hx hb hK hP hD hS 2 1 rfl rfl hi d_H_findShares_67 (fun H locs hP hD hS => ?_)
              have hP : va_P (dC, dI) classes (WS_H_findShares cI cL cZ h0 a_parts a_chainLengths a_underControl a_shares a_chainShares a_longerChainShares v_parts (vp_updL v_shares_47 l2_47.toNatClampNeg ((v_shares_47 l2_47.toNatClampNeg) + (u42.1 l2_47.toNatClampNeg))) u42.1 u42.2) H := hP
              have hD : va_D A (WS_H_findShares cI cL cZ h0 a_parts a_chainLengths a_underControl a_shares a_chainShares a_longerChainShares v_parts (vp_updL v_shares_47 l2_47.toNatClampNeg ((v_shares_47 l2_47.toNatClampNeg) + (u42.1 l2_47.toNatClampNeg))) u42.1 u42.2) := hD
              refine lv_iinc (v := (l2_47 + 1)) (lv' := [(2, .int (l2_47 + 1)), (0, .ref h0), (1, .int l1_36)]) hx hb d_H_findShares_68 hl (k := 2) rfl rfl (by decide) rfl (fun ls hl => ?_)
              refine lv_goto (tgt := 47) hx hb d_H_findShares_71 rfl ?_
              have hl := lv_sub hl [1, 2, 0] rfl
              exact ih47 (l2_47 + 1) (vp_updL v_shares_47 l2_47.toNatClampNeg ((v_shares_47 l2_47.toNatClampNeg) + (u42.1 l2_47.toNatClampNeg))) _ _ _ (Nat.lt_of_lt_of_le hw.2 (Nat.le_of_lt_succ hn47)) hw.1 hl hP hD hS
        exact L47 _ 0 v_shares_36 _ _ _ (Nat.lt_succ_self _) hi47 hl hP hD hS
  exact L36 _ 1 (vp_updL u5 0 10000000000000000) (vp_updL u22 0 10000000000000000) v_longerChainShares _ _ _ (Nat.lt_succ_self _) hi36 hl hP hD hS
/-! ConsolidationDesk$Holdings.change(III)Z -/
abbrev y_H_change : MethodName := ⟨"ConsolidationDesk$Holdings", "change", "(III)Z"⟩
theorem d_H_change_0 : decode prog_2_method_4_code 0 = .ok (.iload_n 1, 1) := by decide +kernel
theorem d_H_change_1 : decode prog_2_method_4_code 1 = .ok (.bipush 12, 2) := by decide +kernel
theorem d_H_change_3 : decode prog_2_method_4_code 3 = .ok (.imul, 1) := by decide +kernel
theorem d_H_change_4 : decode prog_2_method_4_code 4 = .ok (.iload_n 2, 1) := by decide +kernel
theorem d_H_change_5 : decode prog_2_method_4_code 5 = .ok (.iadd, 1) := by decide +kernel
theorem d_H_change_6 : decode prog_2_method_4_code 6 = .ok (.istore 4, 2) := by decide +kernel
theorem d_H_change_8 : decode prog_2_method_4_code 8 = .ok (.aload_n 0, 1) := by decide +kernel
theorem d_H_change_9 : decode prog_2_method_4_code 9 = .ok (.getfield 9, 3) := by decide +kernel
theorem d_H_change_12 : decode prog_2_method_4_code 12 = .ok (.iload 4, 2) := by decide +kernel
theorem d_H_change_14 : decode prog_2_method_4_code 14 = .ok (.iaload, 1) := by decide +kernel
theorem d_H_change_15 : decode prog_2_method_4_code 15 = .ok (.istore 5, 2) := by decide +kernel
theorem d_H_change_17 : decode prog_2_method_4_code 17 = .ok (.aload_n 0, 1) := by decide +kernel
theorem d_H_change_18 : decode prog_2_method_4_code 18 = .ok (.getfield 9, 3) := by decide +kernel
theorem d_H_change_21 : decode prog_2_method_4_code 21 = .ok (.iload 4, 2) := by decide +kernel
theorem d_H_change_23 : decode prog_2_method_4_code 23 = .ok (.iload_n 3, 1) := by decide +kernel
theorem d_H_change_24 : decode prog_2_method_4_code 24 = .ok (.iastore, 1) := by decide +kernel
theorem d_H_change_25 : decode prog_2_method_4_code 25 = .ok (.aload_n 0, 1) := by decide +kernel
theorem d_H_change_26 : decode prog_2_method_4_code 26 = .ok (.iload_n 2, 1) := by decide +kernel
theorem d_H_change_27 : decode prog_2_method_4_code 27 = .ok (.invokevirtual 34, 3) := by decide +kernel
theorem d_H_change_30 : decode prog_2_method_4_code 30 = .ok (.sipush 10000, 3) := by decide +kernel
theorem d_H_change_33 : decode prog_2_method_4_code 33 = .ok (.if_icmp .gt 10, 3) := by decide +kernel
theorem d_H_change_36 : decode prog_2_method_4_code 36 = .ok (.aload_n 0, 1) := by decide +kernel
theorem d_H_change_37 : decode prog_2_method_4_code 37 = .ok (.invokevirtual 38, 3) := by decide +kernel
theorem d_H_change_40 : decode prog_2_method_4_code 40 = .ok (.ifCond .eq 14, 3) := by decide +kernel
theorem d_H_change_43 : decode prog_2_method_4_code 43 = .ok (.aload_n 0, 1) := by decide +kernel
theorem d_H_change_44 : decode prog_2_method_4_code 44 = .ok (.getfield 9, 3) := by decide +kernel
theorem d_H_change_47 : decode prog_2_method_4_code 47 = .ok (.iload 4, 2) := by decide +kernel
theorem d_H_change_49 : decode prog_2_method_4_code 49 = .ok (.iload 5, 2) := by decide +kernel
theorem d_H_change_51 : decode prog_2_method_4_code 51 = .ok (.iastore, 1) := by decide +kernel
theorem d_H_change_52 : decode prog_2_method_4_code 52 = .ok (.iconst 0, 1) := by decide +kernel
theorem d_H_change_53 : decode prog_2_method_4_code 53 = .ok (.ireturn, 1) := by decide +kernel
theorem d_H_change_54 : decode prog_2_method_4_code 54 = .ok (.aload_n 0, 1) := by decide +kernel
theorem d_H_change_55 : decode prog_2_method_4_code 55 = .ok (.invokevirtual 42, 3) := by decide +kernel
theorem d_H_change_58 : decode prog_2_method_4_code 58 = .ok (.aload_n 0, 1) := by decide +kernel
theorem d_H_change_59 : decode prog_2_method_4_code 59 = .ok (.invokevirtual 45, 3) := by decide +kernel
theorem d_H_change_62 : decode prog_2_method_4_code 62 = .ok (.iconst 1, 1) := by decide +kernel
theorem d_H_change_63 : decode prog_2_method_4_code 63 = .ok (.ireturn, 1) := by decide +kernel
abbrev WS_H_change (cI cL cZ : ClassId)  (h0 a_parts a_chainLengths a_underControl a_shares a_chainShares a_longerChainShares : Nat) (v_parts : (Nat → Int32)) (v_chainLengths : (Nat → Int32)) (v_underControl : (Nat → Int32)) (v_shares : (Nat → Int64)) (v_chainShares : (Nat → Int64)) (v_longerChainShares : (Nat → Int64)) : va_W := [(h0, .inr (0, [.ref a_parts, .ref a_chainLengths, .ref a_underControl, .ref a_shares, .ref a_chainShares, .ref a_longerChainShares])), (a_parts, .inl (cI, 144, .inl v_parts)), (a_chainLengths, .inl (cI, 12, .inl v_chainLengths)), (a_underControl, .inl (cZ, 12, .inl v_underControl)), (a_shares, .inl (cL, 12, .inr (.inl v_shares))), (a_chainShares, .inl (cL, 12, .inr (.inl v_chainShares))), (a_longerChainShares, .inl (cL, 12, .inr (.inl v_longerChainShares)))]
def wp_H_change  (p0 : Int32) (p1 : Int32) (p2 : Int32) (v_parts : (Nat → Int32)) (v_chainLengths : (Nat → Int32)) (v_underControl : (Nat → Int32)) (v_shares : (Nat → Int64)) (v_chainShares : (Nat → Int64)) (v_longerChainShares : (Nat → Int64)) (post : Int32 → ((Nat → Int32) × (Nat → Int32) × (Nat → Int32) × (Nat → Int64) × (Nat → Int64) × (Nat → Int64)) → Prop) : Prop := (∀ x6 : Int32, x6 = ((p0 * 12) + p1) → (vp_in x6 144 ∧ (∀ x15 : Int32, x15 = (v_parts x6.toNatClampNeg) → (vp_in x6 144 ∧ (wp_H_heldInAll p1 (upd v_parts x6.toNatClampNeg p2) (fun (r27 : Int32) (u27 : Unit) => ((10000 < r27 → (vp_in x6 144 ∧ post 0 ((upd (upd v_parts x6.toNatClampNeg p2) x6.toNatClampNeg x15), v_chainLengths, v_underControl, v_shares, v_chainShares, v_longerChainShares))) ∧ (¬ 10000 < r27 → (wp_H_hasTooLongChain (upd v_parts x6.toNatClampNeg p2) v_chainLengths (fun (r37 : Int32) (u37 : (Nat → Int32)) => ((r37 = 0 → (wp_H_findControl (upd v_parts x6.toNatClampNeg p2) v_underControl (fun (u55 : (Nat → Int32)) => (wp_H_findShares (upd v_parts x6.toNatClampNeg p2) v_shares v_chainShares v_longerChainShares (fun (u59 : (Nat → Int64) × (Nat → Int64) × (Nat → Int64)) => post 1 ((upd v_parts x6.toNatClampNeg p2), u37, u55, u59.1, u59.2.1, u59.2.2)))))) ∧ (¬ r37 = 0 → (vp_in x6 144 ∧ post 0 ((upd (upd v_parts x6.toNatClampNeg p2) x6.toNatClampNeg x15), u37, v_underControl, v_shares, v_chainShares, v_longerChainShares))))))))))))))
abbrev ws_H_change : List Cond := .code y_H_change prog_2_method_4_code 6 (some .boolean) :: kxW
abbrev rm_H_change : Room := { frames := 3, cells := 0, slots := 0, locals := 107 }
abbrev QC_H_change (dC : Nat → ClassId) (dI : Nat → Nat → Nat) (cI cL cZ : ClassId) (A : Nat → Prop)  (h0 a_parts a_chainLengths a_underControl a_shares a_chainShares a_longerChainShares : Nat) (v_parts : (Nat → Int32)) (v_chainLengths : (Nat → Int32)) (v_underControl : (Nat → Int32)) (v_shares : (Nat → Int64)) (v_chainShares : (Nat → Int64)) (v_longerChainShares : (Nat → Int64)) (post : Int32 → ((Nat → Int32) × (Nat → Int32) × (Nat → Int32) × (Nat → Int64) × (Nat → Int64) × (Nat → Int64)) → Prop) : Array Value → State → Outcome → State → Prop := va_Qi post (fun (u : (Nat → Int32) × (Nat → Int32) × (Nat → Int32) × (Nat → Int64) × (Nat → Int64) × (Nat → Int64)) t => kx_B (dC, dI) classes A (WS_H_change cI cL cZ h0 a_parts a_chainLengths a_underControl a_shares a_chainShares a_longerChainShares u.1 u.2.1 u.2.2.1 u.2.2.2.1 u.2.2.2.2.1 u.2.2.2.2.2) t) A
set_option maxHeartbeats 4000000 in
set_option maxRecDepth 100000 in
theorem c_H_change (l : Launch) (dC : Nat → ClassId) (dI : Nat → Nat → Nat) (cI cL cZ : ClassId)  (h0 a_parts a_chainLengths a_underControl a_shares a_chainShares a_longerChainShares : Nat) (v_parts : (Nat → Int32)) (v_chainLengths : (Nat → Int32)) (v_underControl : (Nat → Int32)) (v_shares : (Nat → Int64)) (v_chainShares : (Nat → Int64)) (v_longerChainShares : (Nat → Int64)) (sz : Nat) (p0 : Int32) (p1 : Int32) (p2 : Int32) {post : Int32 → ((Nat → Int32) × (Nat → Int32) × (Nat → Int32) × (Nat → Int64) × (Nat → Int64) × (Nat → Int64)) → Prop} (hw : wp_H_change p0 p1 p2 v_parts v_chainLengths v_underControl v_shares v_chainShares v_longerChainShares post) : Met l y_H_change ws_H_change rm_H_change (kx_Pc (dC, dI) classes (kx_T cI cL cZ) (WS_H_change cI cL cZ h0 a_parts a_chainLengths a_underControl a_shares a_chainShares a_longerChainShares v_parts v_chainLengths v_underControl v_shares v_chainShares v_longerChainShares) sz [.ref h0, .int p0, .int p1, .int p2]) (QC_H_change dC dI cI cL cZ (va_A (WS_H_change cI cL cZ h0 a_parts a_chainLengths a_underControl a_shares a_chainShares a_longerChainShares v_parts v_chainLengths v_underControl v_shares v_chainShares v_longerChainShares) sz) h0 a_parts a_chainLengths a_underControl a_shares a_chainShares a_longerChainShares v_parts v_chainLengths v_underControl v_shares v_chainShares v_longerChainShares post) 0 0 (va_A (WS_H_change cI cL cZ h0 a_parts a_chainLengths a_underControl a_shares a_chainShares a_longerChainShares v_parts v_chainLengths v_underControl v_shares v_chainShares v_longerChainShares) sz) := by
  refine Met.ofW (cc := prog_2_method_4_code) (maxL := 6) (ret := (some .boolean)) (by decide) rfl ?_
  intro p e s m args below meth c s₁ B hml hv
  obtain ⟨rfl, hsz, hP, hK, hD0, hN⟩ := hv
  have hx := B.exec
  have hb := B.bytes
  have hr := B.returns
  have hts := atoms_spec (ws := ws_H_change) B.pre
  have hown : s.vm.findClass R_H = some m.cls := findClass_of_methodNamed B.named
  have hlocks := B.notSynchronized
  subst hsz
  have hD := hD0.self (sz := s.heap.size)
  generalize hAe : va_A (WS_H_change cI cL cZ h0 a_parts a_chainLengths a_underControl a_shares a_chainShares a_longerChainShares v_parts v_chainLengths v_underControl v_shares v_chainShares v_longerChainShares) s.heap.size = A at hD ⊢
  have hA : ∀ q : Nat, s.heap.size ≤ q → A q := fun q h => by rw [← hAe]; exact Or.inr h
  have hS : va_S A s.heap s.heap [] := va_S.rf
  have hP : va_P (dC, dI) classes (WS_H_change cI cL cZ h0 a_parts a_chainLengths a_underControl a_shares a_chainShares a_longerChainShares v_parts v_chainLengths v_underControl v_shares v_chainShares v_longerChainShares) s.heap := hP
  have hl := lv_entry ([.ref h0, .int p0, .int p1, .int p2]) (n := 6) (Nat.le_of_ble_eq_true rfl)
  rw [lg_entry_eq]
  generalize (lg_sl ([.ref h0, .int p0, .int p1, .int p2]) ++ List.replicate (6 - (lg_sl ([.ref h0, .int p0, .int p1, .int p2])).length) Slot.unset).toArray = ls at hl ⊢
  have hl : lv_has ls 6 [(0, .ref h0), (1, .int p0), (2, .int p1), (3, .int p2)] := hl
  unfold wp_H_change at hw
  refine (show ∀ (H : Heap) (locs : List Loc), va_P (dC, dI) classes (WS_H_change cI cL cZ h0 a_parts a_chainLengths a_underControl a_shares a_chainShares a_longerChainShares v_parts v_chainLengths v_underControl v_shares v_chainShares v_longerChainShares) H → va_S A s.heap H locs → W p l e (headSpec ws_H_change rm_H_change).room s m ([.ref h0, .int p0, .int p1, .int p2] : List Value).toArray below meth c H locs 0 0 (MQ below (QC_H_change dC dI cI cL cZ A h0 a_parts a_chainLengths a_underControl a_shares a_chainShares a_longerChainShares v_parts v_chainLengths v_underControl v_shares v_chainShares v_longerChainShares post) ([.ref h0, .int p0, .int p1, .int p2] : List Value).toArray s 0 0 A) (F0 m 0 ls []) from ?_) _ _ hP hS
  intro H locs hP hS
  refine lv_iload_n hx hb d_H_change_0 rfl (lv_at hl 1 rfl) ?_
  refine lv_bipush (v := 12) hx hb d_H_change_1 (by decide) ?_
  refine lv_imul hx hb d_H_change_3 ?_
  refine lv_iload_n hx hb d_H_change_4 rfl (lv_at hl 2 rfl) ?_
  refine lv_iadd hx hb d_H_change_5 ?_
  refine lv_topi (fun x6 e6 => ?_)
  have hw := hw x6 e6
  refine lv_istore (lv' := [(4, .int x6), (0, .ref h0), (1, .int p0), (2, .int p1), (3, .int p2)]) hx hb d_H_change_6 hl (by decide) rfl (fun ls hl => ?_)
  refine lv_aload_n hx hb d_H_change_8 rfl (lv_at hl 1 rfl) ?_
  refine va_get (D := (dC, dI)) (ci := 0) (v := .ref a_parts) (C := R_H) (T := F_H) (N := 6) hx hb hts (kx_in in_H) hown hK hP 0 rfl rfl 0 (by decide) (hts _ (kx_w iw_28)) (fun _ h9 => h9) rfl d_H_change_9 ?_
  refine lv_iload hx hb d_H_change_12 (lv_at hl 0 rfl) ?_
  obtain ⟨hi, hw⟩ := hw
  refine va_iald hx hb hK hP 1 0 rfl rfl hi d_H_change_14 ?_
  refine lv_topi (fun x15 e15 => ?_)
  have hw := hw x15 e15
  refine lv_istore (lv' := [(5, .int x15), (4, .int x6), (0, .ref h0), (1, .int p0), (2, .int p1), (3, .int p2)]) hx hb d_H_change_15 hl (by decide) rfl (fun ls hl => ?_)
  refine lv_aload_n hx hb d_H_change_17 rfl (lv_at hl 2 rfl) ?_
  refine va_get (D := (dC, dI)) (ci := 0) (v := .ref a_parts) (C := R_H) (T := F_H) (N := 6) hx hb hts (kx_in in_H) hown hK hP 0 rfl rfl 0 (by decide) (hts _ (kx_w iw_28)) (fun _ h9 => h9) rfl d_H_change_18 ?_
  refine lv_iload hx hb d_H_change_21 (lv_at hl 1 rfl) ?_
  refine lv_iload_n hx hb d_H_change_23 rfl (lv_at hl 5 rfl) ?_
  obtain ⟨hi, hw⟩ := hw
  refine va_iast hx hb hK hP hD hS 1 0 rfl rfl hi d_H_change_24 (fun H locs hP hD hS => ?_)
  have hP : va_P (dC, dI) classes (WS_H_change cI cL cZ h0 a_parts a_chainLengths a_underControl a_shares a_chainShares a_longerChainShares (upd v_parts x6.toNatClampNeg p2) v_chainLengths v_underControl v_shares v_chainShares v_longerChainShares) H := hP
  have hD : va_D A (WS_H_change cI cL cZ h0 a_parts a_chainLengths a_underControl a_shares a_chainShares a_longerChainShares (upd v_parts x6.toNatClampNeg p2) v_chainLengths v_underControl v_shares v_chainShares v_longerChainShares) := hD
  refine lv_aload_n hx hb d_H_change_25 rfl (lv_at hl 2 rfl) ?_
  refine lv_iload_n hx hb d_H_change_26 rfl (lv_at hl 4 rfl) ?_
  refine kx_calli (ws' := fun u27 => (WS_H_change cI cL cZ h0 a_parts a_chainLengths a_underControl a_shares a_chainShares a_longerChainShares (upd v_parts x6.toNatClampNeg p2) v_chainLengths v_underControl v_shares v_chainShares v_longerChainShares)) (va_runV (As := [.int p1]) (rest := []) ⟨hx, hb, hml, hown, hts⟩ (c_H_heldInAll l dC dI cI cL cZ h0 a_parts a_chainLengths a_underControl a_shares a_chainShares a_longerChainShares (upd v_parts x6.toNatClampNeg p2) H.size p1 hw) ⟨(callB_of 1 hts (kx_good iw_144) rfl rfl rfl (hts _ (kx_w iw_2)) (hts _ (kx_w iw_141)) (by decide +kernel) ⟨Nat.le_of_ble_eq_true rfl, Nat.le_of_ble_eq_true rfl⟩), (hts _ (kx_w iw_143)), (hts _ (kx_w sl_H_heldInAll))⟩ (kx_preV hN hK hP hD [0, 1] (by decide) rfl 0 rfl rfl) rfl rfl hl.1 rfl (lv_room (Nat.le_of_ble_eq_true rfl)) d_H_change_27 ⟨Nat.le_of_ble_eq_true rfl, Nat.le_of_ble_eq_true rfl⟩) hP hD hS hA [0, 1] [2, 3, 4, 5, 6] rfl rfl (by decide) (by decide) [5, 6, 0, 1, 2, 3, 4] (by decide) (fun _ => rfl) (fun r27 u27 H locs hw hP hD hS => ?_)
  have hP : va_P (dC, dI) classes (WS_H_change cI cL cZ h0 a_parts a_chainLengths a_underControl a_shares a_chainShares a_longerChainShares (upd v_parts x6.toNatClampNeg p2) v_chainLengths v_underControl v_shares v_chainShares v_longerChainShares) H := hP
  have hD : va_D A (WS_H_change cI cL cZ h0 a_parts a_chainLengths a_underControl a_shares a_chainShares a_longerChainShares (upd v_parts x6.toNatClampNeg p2) v_chainLengths v_underControl v_shares v_chainShares v_longerChainShares) := hD
  refine lv_sipush (v := 10000) hx hb d_H_change_30 (by decide) ?_
  refine lv_icmp_gt (tgt := 43) hx hb d_H_change_33 rfl (fun hc => ?_) (fun hc => ?_)
  ·
    have hw := hw.1 hc
    refine lv_aload_n hx hb d_H_change_43 rfl (lv_at hl 2 rfl) ?_
    refine va_get (D := (dC, dI)) (ci := 0) (v := .ref a_parts) (C := R_H) (T := F_H) (N := 6) hx hb hts (kx_in in_H) hown hK hP 0 rfl rfl 0 (by decide) (hts _ (kx_w iw_28)) (fun _ h9 => h9) rfl d_H_change_44 ?_
    refine lv_iload hx hb d_H_change_47 (lv_at hl 1 rfl) ?_
    refine lv_iload hx hb d_H_change_49 (lv_at hl 0 rfl) ?_
    obtain ⟨hi, hw⟩ := hw
    refine va_iast hx hb hK hP hD hS 1 0 rfl rfl hi d_H_change_51 (fun H locs hP hD hS => ?_)
    have hP : va_P (dC, dI) classes (WS_H_change cI cL cZ h0 a_parts a_chainLengths a_underControl a_shares a_chainShares a_longerChainShares (upd (upd v_parts x6.toNatClampNeg p2) x6.toNatClampNeg x15) v_chainLengths v_underControl v_shares v_chainShares v_longerChainShares) H := hP
    have hD : va_D A (WS_H_change cI cL cZ h0 a_parts a_chainLengths a_underControl a_shares a_chainShares a_longerChainShares (upd (upd v_parts x6.toNatClampNeg p2) x6.toNatClampNeg x15) v_chainLengths v_underControl v_shares v_chainShares v_longerChainShares) := hD
    refine lv_iconst (v := 0) hx hb d_H_change_52 (by decide) ?_
    exact W.zret (v := 0) hx hb hr (by decide) (fun t ht hW => ⟨⟨0, ((upd (upd v_parts x6.toNatClampNeg p2) x6.toNatClampNeg x15), v_chainLengths, v_underControl, v_shares, v_chainShares, v_longerChainShares), rfl, hw, ⟨by rw [ht]; exact hP, hD⟩⟩, hS.F ht⟩) hS.2.2 d_H_change_53
  ·
    have hw := hw.2 hc
    refine lv_aload_n hx hb d_H_change_36 rfl (lv_at hl 2 rfl) ?_
    refine kx_calli (ws' := fun u37 => (WS_H_change cI cL cZ h0 a_parts a_chainLengths a_underControl a_shares a_chainShares a_longerChainShares (upd v_parts x6.toNatClampNeg p2) u37 v_underControl v_shares v_chainShares v_longerChainShares)) (va_runV (As := []) (rest := []) ⟨hx, hb, hml, hown, hts⟩ (c_H_hasTooLongChain l dC dI cI cL cZ h0 a_parts a_chainLengths a_underControl a_shares a_chainShares a_longerChainShares (upd v_parts x6.toNatClampNeg p2) v_chainLengths H.size  hw) ⟨(callB_of 0 hts (kx_good iw_148) rfl rfl rfl (hts _ (kx_w iw_2)) (hts _ (kx_w iw_145)) (by decide +kernel) ⟨Nat.le_of_ble_eq_true rfl, Nat.le_of_ble_eq_true rfl⟩), (hts _ (kx_w iw_147)), (hts _ (kx_w sl_H_hasTooLongChain))⟩ (kx_preV hN hK hP hD [0, 1, 2] (by decide) rfl 0 rfl rfl) rfl rfl hl.1 rfl (lv_room (Nat.le_of_ble_eq_true rfl)) d_H_change_37 ⟨Nat.le_of_ble_eq_true rfl, Nat.le_of_ble_eq_true rfl⟩) hP hD hS hA [0, 1, 2] [3, 4, 5, 6] rfl rfl (by decide) (by decide) [4, 5, 6, 0, 1, 2, 3] (by decide) (fun _ => rfl) (fun r37 u37 H locs hw hP hD hS => ?_)
    have hP : va_P (dC, dI) classes (WS_H_change cI cL cZ h0 a_parts a_chainLengths a_underControl a_shares a_chainShares a_longerChainShares (upd v_parts x6.toNatClampNeg p2) u37 v_underControl v_shares v_chainShares v_longerChainShares) H := hP
    have hD : va_D A (WS_H_change cI cL cZ h0 a_parts a_chainLengths a_underControl a_shares a_chainShares a_longerChainShares (upd v_parts x6.toNatClampNeg p2) u37 v_underControl v_shares v_chainShares v_longerChainShares) := hD
    refine lv_if_eq (tgt := 54) hx hb d_H_change_40 rfl (fun hc => ?_) (fun hc => ?_)
    ·
      have hw := hw.1 hc
      refine lv_aload_n hx hb d_H_change_54 rfl (lv_at hl 2 rfl) ?_
      refine kx_callv (ws' := fun u55 => (WS_H_change cI cL cZ h0 a_parts a_chainLengths a_underControl a_shares a_chainShares a_longerChainShares (upd v_parts x6.toNatClampNeg p2) u37 u55 v_shares v_chainShares v_longerChainShares)) (va_runV (As := []) (rest := []) ⟨hx, hb, hml, hown, hts⟩ (c_H_findControl l dC dI cI cL cZ h0 a_parts a_chainLengths a_underControl a_shares a_chainShares a_longerChainShares (upd v_parts x6.toNatClampNeg p2) v_underControl H.size  hw) ⟨(callB_of 0 hts (kx_good iw_162) rfl rfl rfl (hts _ (kx_w iw_2)) (hts _ (kx_w iw_159)) (by decide +kernel) ⟨Nat.le_of_ble_eq_true rfl, Nat.le_of_ble_eq_true rfl⟩), (hts _ (kx_w iw_161)), (hts _ (kx_w sl_H_findControl))⟩ (kx_preV hN hK hP hD [0, 1, 3] (by decide) rfl 0 rfl rfl) rfl rfl hl.1 rfl (lv_room (Nat.le_of_ble_eq_true rfl)) d_H_change_55 ⟨Nat.le_of_ble_eq_true rfl, Nat.le_of_ble_eq_true rfl⟩) hP hD hS hA [0, 1, 3] [2, 4, 5, 6] rfl rfl (by decide) (by decide) [4, 5, 0, 6, 1, 2, 3] (by decide) (fun _ => rfl) (fun u55 H locs hw hP hD hS => ?_)
      have hP : va_P (dC, dI) classes (WS_H_change cI cL cZ h0 a_parts a_chainLengths a_underControl a_shares a_chainShares a_longerChainShares (upd v_parts x6.toNatClampNeg p2) u37 u55 v_shares v_chainShares v_longerChainShares) H := hP
      have hD : va_D A (WS_H_change cI cL cZ h0 a_parts a_chainLengths a_underControl a_shares a_chainShares a_longerChainShares (upd v_parts x6.toNatClampNeg p2) u37 u55 v_shares v_chainShares v_longerChainShares) := hD
      refine lv_aload_n hx hb d_H_change_58 rfl (lv_at hl 2 rfl) ?_
      refine kx_callv (ws' := fun u59 => (WS_H_change cI cL cZ h0 a_parts a_chainLengths a_underControl a_shares a_chainShares a_longerChainShares (upd v_parts x6.toNatClampNeg p2) u37 u55 u59.1 u59.2.1 u59.2.2)) (va_runV (As := []) (rest := []) ⟨hx, hb, hml, hown, hts⟩ (c_H_findShares l dC dI cI cL cZ h0 a_parts a_chainLengths a_underControl a_shares a_chainShares a_longerChainShares (upd v_parts x6.toNatClampNeg p2) v_shares v_chainShares v_longerChainShares H.size  hw) ⟨(callB_of 0 hts (kx_good iw_170) rfl rfl rfl (hts _ (kx_w iw_2)) (hts _ (kx_w iw_167)) (by decide +kernel) ⟨Nat.le_of_ble_eq_true rfl, Nat.le_of_ble_eq_true rfl⟩), (hts _ (kx_w iw_169)), (hts _ (kx_w sl_H_findShares))⟩ (kx_preV hN hK hP hD [0, 1, 4, 5, 6] (by decide) rfl 0 rfl rfl) rfl rfl hl.1 rfl (lv_room (Nat.le_of_ble_eq_true rfl)) d_H_change_59 ⟨Nat.le_of_ble_eq_true rfl, Nat.le_of_ble_eq_true rfl⟩) hP hD hS hA [0, 1, 4, 5, 6] [2, 3] rfl rfl (by decide) (by decide) [2, 3, 0, 1, 4, 5, 6] (by decide) (fun _ => rfl) (fun u59 H locs hw hP hD hS => ?_)
      have hP : va_P (dC, dI) classes (WS_H_change cI cL cZ h0 a_parts a_chainLengths a_underControl a_shares a_chainShares a_longerChainShares (upd v_parts x6.toNatClampNeg p2) u37 u55 u59.1 u59.2.1 u59.2.2) H := hP
      have hD : va_D A (WS_H_change cI cL cZ h0 a_parts a_chainLengths a_underControl a_shares a_chainShares a_longerChainShares (upd v_parts x6.toNatClampNeg p2) u37 u55 u59.1 u59.2.1 u59.2.2) := hD
      refine lv_iconst (v := 1) hx hb d_H_change_62 (by decide) ?_
      exact W.zret (v := 1) hx hb hr (by decide) (fun t ht hW => ⟨⟨1, ((upd v_parts x6.toNatClampNeg p2), u37, u55, u59.1, u59.2.1, u59.2.2), rfl, hw, ⟨by rw [ht]; exact hP, hD⟩⟩, hS.F ht⟩) hS.2.2 d_H_change_63
    ·
      have hw := hw.2 hc
      refine lv_aload_n hx hb d_H_change_43 rfl (lv_at hl 2 rfl) ?_
      refine va_get (D := (dC, dI)) (ci := 0) (v := .ref a_parts) (C := R_H) (T := F_H) (N := 6) hx hb hts (kx_in in_H) hown hK hP 0 rfl rfl 0 (by decide) (hts _ (kx_w iw_28)) (fun _ h9 => h9) rfl d_H_change_44 ?_
      refine lv_iload hx hb d_H_change_47 (lv_at hl 1 rfl) ?_
      refine lv_iload hx hb d_H_change_49 (lv_at hl 0 rfl) ?_
      obtain ⟨hi, hw⟩ := hw
      refine va_iast hx hb hK hP hD hS 1 0 rfl rfl hi d_H_change_51 (fun H locs hP hD hS => ?_)
      have hP : va_P (dC, dI) classes (WS_H_change cI cL cZ h0 a_parts a_chainLengths a_underControl a_shares a_chainShares a_longerChainShares (upd (upd v_parts x6.toNatClampNeg p2) x6.toNatClampNeg x15) u37 v_underControl v_shares v_chainShares v_longerChainShares) H := hP
      have hD : va_D A (WS_H_change cI cL cZ h0 a_parts a_chainLengths a_underControl a_shares a_chainShares a_longerChainShares (upd (upd v_parts x6.toNatClampNeg p2) x6.toNatClampNeg x15) u37 v_underControl v_shares v_chainShares v_longerChainShares) := hD
      refine lv_iconst (v := 0) hx hb d_H_change_52 (by decide) ?_
      exact W.zret (v := 0) hx hb hr (by decide) (fun t ht hW => ⟨⟨0, ((upd (upd v_parts x6.toNatClampNeg p2) x6.toNatClampNeg x15), u37, v_underControl, v_shares, v_chainShares, v_longerChainShares), rfl, hw, ⟨by rw [ht]; exact hP, hD⟩⟩, hS.F ht⟩) hS.2.2 d_H_change_53
