/-! java/util/Arrays.fill([II)V -/
abbrev y_A_fillI : MethodName := ⟨"java/util/Arrays", "fill", "([II)V"⟩
theorem d_A_fillI_0 : decode prog_11_method_103_code 0 = .ok (.iconst 0, 1) := by decide +kernel
theorem d_A_fillI_1 : decode prog_11_method_103_code 1 = .ok (.istore_n 2, 1) := by decide +kernel
theorem d_A_fillI_2 : decode prog_11_method_103_code 2 = .ok (.aload_n 0, 1) := by decide +kernel
theorem d_A_fillI_3 : decode prog_11_method_103_code 3 = .ok (.arraylength, 1) := by decide +kernel
theorem d_A_fillI_4 : decode prog_11_method_103_code 4 = .ok (.istore_n 3, 1) := by decide +kernel
theorem d_A_fillI_5 : decode prog_11_method_103_code 5 = .ok (.iload_n 2, 1) := by decide +kernel
theorem d_A_fillI_6 : decode prog_11_method_103_code 6 = .ok (.iload_n 3, 1) := by decide +kernel
theorem d_A_fillI_7 : decode prog_11_method_103_code 7 = .ok (.if_icmp .ge 13, 3) := by decide +kernel
theorem d_A_fillI_10 : decode prog_11_method_103_code 10 = .ok (.aload_n 0, 1) := by decide +kernel
theorem d_A_fillI_11 : decode prog_11_method_103_code 11 = .ok (.iload_n 2, 1) := by decide +kernel
theorem d_A_fillI_12 : decode prog_11_method_103_code 12 = .ok (.iload_n 1, 1) := by decide +kernel
theorem d_A_fillI_13 : decode prog_11_method_103_code 13 = .ok (.iastore, 1) := by decide +kernel
theorem d_A_fillI_14 : decode prog_11_method_103_code 14 = .ok (.iinc 2 1, 3) := by decide +kernel
theorem d_A_fillI_17 : decode prog_11_method_103_code 17 = .ok (.goto (-12), 3) := by decide +kernel
theorem d_A_fillI_20 : decode prog_11_method_103_code 20 = .ok (.return_, 1) := by decide +kernel
abbrev WS_A_fillI (cI cL cZ : ClassId) (n_g0 : Nat) (a_g0 : Nat) (v_g0 : (Nat → Int32)) : va_W := [(a_g0, .inl (cI, n_g0, .inl v_g0))]
def wp_A_fillI (n_g0 : Nat) (p1 : Int32) (v_g0 : (Nat → Int32)) (post : (Nat → Int32) → Prop) : Prop := (∀ x4 : Int32, x4 = (Int32.ofNat n_g0) → (∃ (I5 : Int32 → (Nat → Int32) → Prop) (μ5 : Int32 → (Nat → Int32) → Nat), I5 0 v_g0 ∧ ∀ (l2_5 : Int32) (v_g0_5 : (Nat → Int32)), I5 l2_5 v_g0_5 → ((x4 ≤ l2_5 → post v_g0_5) ∧ (¬ x4 ≤ l2_5 → (vp_in l2_5 n_g0 ∧ I5 (l2_5 + 1) (upd v_g0_5 l2_5.toNatClampNeg p1) ∧ μ5 (l2_5 + 1) (upd v_g0_5 l2_5.toNatClampNeg p1) < μ5 l2_5 v_g0_5)))))
abbrev ws_A_fillI : List Cond := .code y_A_fillI prog_11_method_103_code 4 none :: kxW
abbrev rm_A_fillI : Room := { frames := 0, cells := 0, slots := 0, locals := 0 }
abbrev QC_A_fillI (dC : Nat → ClassId) (dI : Nat → Nat → Nat) (cI cL cZ : ClassId) (A : Nat → Prop) (n_g0 : Nat) (a_g0 : Nat) (v_g0 : (Nat → Int32)) (post : (Nat → Int32) → Prop) : Array Value → State → Outcome → State → Prop := va_Qv post (fun (u : (Nat → Int32)) t => kx_B (dC, dI) classes A (WS_A_fillI cI cL cZ n_g0 a_g0 u) t) A
set_option maxHeartbeats 4000000 in
set_option maxRecDepth 100000 in
theorem c_A_fillI (l : Launch) (dC : Nat → ClassId) (dI : Nat → Nat → Nat) (cI cL cZ : ClassId) (n_g0 : Nat) (a_g0 : Nat) (v_g0 : (Nat → Int32)) (sz : Nat) (p1 : Int32) {post : (Nat → Int32) → Prop} (hw : wp_A_fillI n_g0 p1 v_g0 post) : Met l y_A_fillI ws_A_fillI rm_A_fillI (kx_Pc (dC, dI) classes (kx_T cI cL cZ) (WS_A_fillI cI cL cZ n_g0 a_g0 v_g0) sz [.ref a_g0, .int p1]) (QC_A_fillI dC dI cI cL cZ (va_A (WS_A_fillI cI cL cZ n_g0 a_g0 v_g0) sz) n_g0 a_g0 v_g0 post) 0 0 (va_A (WS_A_fillI cI cL cZ n_g0 a_g0 v_g0) sz) := by
  refine Met.ofW (cc := prog_11_method_103_code) (maxL := 4) (ret := none) (by decide) rfl ?_
  intro p e s m args below meth c s₁ B hml hv
  obtain ⟨rfl, hsz, hP, hK, hD0, hN⟩ := hv
  have hx := B.exec
  have hb := B.bytes
  have hr := B.returns
  have hts := atoms_spec (ws := ws_A_fillI) B.pre
  have hown : s.vm.findClass R_A = some m.cls := findClass_of_methodNamed B.named
  have hlocks := B.notSynchronized
  subst hsz
  have hD := hD0.self (sz := s.heap.size)
  generalize hAe : va_A (WS_A_fillI cI cL cZ n_g0 a_g0 v_g0) s.heap.size = A at hD ⊢
  have hA : ∀ q : Nat, s.heap.size ≤ q → A q := fun q h => by rw [← hAe]; exact Or.inr h
  have hS : va_S A s.heap s.heap [] := va_S.rf
  have hP : va_P (dC, dI) classes (WS_A_fillI cI cL cZ n_g0 a_g0 v_g0) s.heap := hP
  have hl := lv_entry ([.ref a_g0, .int p1]) (n := 4) (Nat.le_of_ble_eq_true rfl)
  rw [lg_entry_eq]
  generalize (lg_sl ([.ref a_g0, .int p1]) ++ List.replicate (4 - (lg_sl ([.ref a_g0, .int p1])).length) Slot.unset).toArray = ls at hl ⊢
  have hl : lv_has ls 4 [(0, .ref a_g0), (1, .int p1)] := hl
  unfold wp_A_fillI at hw
  refine (show ∀ (H : Heap) (locs : List Loc), va_P (dC, dI) classes (WS_A_fillI cI cL cZ n_g0 a_g0 v_g0) H → va_S A s.heap H locs → W p l e (headSpec ws_A_fillI rm_A_fillI).room s m ([.ref a_g0, .int p1] : List Value).toArray below meth c H locs 0 0 (MQ below (QC_A_fillI dC dI cI cL cZ A n_g0 a_g0 v_g0 post) ([.ref a_g0, .int p1] : List Value).toArray s 0 0 A) (F0 m 0 ls []) from ?_) _ _ hP hS
  intro H locs hP hS
  refine lv_iconst (v := 0) hx hb d_A_fillI_0 (by decide) ?_
  refine lv_istore_n (lv' := [(2, .int 0), (0, .ref a_g0), (1, .int p1)]) hx hb d_A_fillI_1 rfl hl (by decide) rfl (fun ls hl => ?_)
  refine lv_aload_n hx hb d_A_fillI_2 rfl (lv_at hl 1 rfl) ?_
  refine va_alen (v := (Int32.ofNat n_g0)) hx hb hK hP 0 0 rfl rfl rfl d_A_fillI_3 ?_
  refine lv_topi (fun x4 e4 => ?_)
  have hw := hw x4 e4
  refine lv_istore_n (lv' := [(3, .int x4), (2, .int 0), (0, .ref a_g0), (1, .int p1)]) hx hb d_A_fillI_4 rfl hl (by decide) rfl (fun ls hl => ?_)
  have hl := lv_sub hl [2, 3, 1, 0] rfl
  obtain ⟨I5, μ5, hi5, hs5⟩ := hw
  have L5 : ∀ (n : Nat) (l2_5 : Int32) (v_g0_5 : (Nat → Int32)) (H : Heap) (locs : List Loc) (ls : Array Slot), μ5 l2_5 v_g0_5 < n → I5 l2_5 v_g0_5 → lv_has ls 4 [(0, .ref a_g0), (1, .int p1), (2, .int l2_5), (3, .int x4)] → va_P (dC, dI) classes (WS_A_fillI cI cL cZ n_g0 a_g0 v_g0_5) H → va_D A (WS_A_fillI cI cL cZ n_g0 a_g0 v_g0_5) → va_S A s.heap H locs → W p l e (headSpec ws_A_fillI rm_A_fillI).room s m ([.ref a_g0, .int p1] : List Value).toArray below meth c H locs 0 0 (MQ below (QC_A_fillI dC dI cI cL cZ A n_g0 a_g0 v_g0 post) ([.ref a_g0, .int p1] : List Value).toArray s 0 0 A) (F0 m 5 ls []) := by
    intro n
    induction n with
    | zero => intro l2_5 v_g0_5 H locs ls hn; exact absurd hn (Nat.not_lt_zero _)
    | succ n ih5 =>
      intro l2_5 v_g0_5 H locs ls hn5 hI hl hP hD hS
      have hw := hs5 l2_5 v_g0_5 hI
      refine lv_iload_n hx hb d_A_fillI_5 rfl (lv_at hl 2 rfl) ?_
      refine lv_iload_n hx hb d_A_fillI_6 rfl (lv_at hl 3 rfl) ?_
      refine lv_icmp_ge (tgt := 20) hx hb d_A_fillI_7 rfl (fun hc => ?_) (fun hc => ?_)
      ·
        have hw := hw.1 hc
        exact W.vret hx hb hr (fun t ht hW => ⟨⟨v_g0_5, rfl, hw, ⟨by rw [ht]; exact hP, hD⟩⟩, hS.F ht⟩) hS.2.2 d_A_fillI_20
      ·
        have hw := hw.2 hc
        refine lv_aload_n hx hb d_A_fillI_10 rfl (lv_at hl 0 rfl) ?_
        refine lv_iload_n hx hb d_A_fillI_11 rfl (lv_at hl 2 rfl) ?_
        refine lv_iload_n hx hb d_A_fillI_12 rfl (lv_at hl 1 rfl) ?_
        obtain ⟨hi, hw⟩ := hw
        refine va_iast hx hb hK hP hD hS 0 0 rfl rfl hi d_A_fillI_13 (fun H locs hP hD hS => ?_)
        have hP : va_P (dC, dI) classes (WS_A_fillI cI cL cZ n_g0 a_g0 (upd v_g0_5 l2_5.toNatClampNeg p1)) H := hP
        have hD : va_D A (WS_A_fillI cI cL cZ n_g0 a_g0 (upd v_g0_5 l2_5.toNatClampNeg p1)) := hD
        refine lv_iinc (v := (l2_5 + 1)) (lv' := [(2, .int (l2_5 + 1)), (0, .ref a_g0), (1, .int p1), (3, .int x4)]) hx hb d_A_fillI_14 hl (k := 2) rfl rfl (by decide) rfl (fun ls hl => ?_)
        refine lv_goto (tgt := 5) hx hb d_A_fillI_17 rfl ?_
        have hl := lv_sub hl [1, 2, 0, 3] rfl
        exact ih5 (l2_5 + 1) (upd v_g0_5 l2_5.toNatClampNeg p1) _ _ _ (Nat.lt_of_lt_of_le hw.2 (Nat.le_of_lt_succ hn5)) hw.1 hl hP hD hS
  exact L5 _ 0 v_g0 _ _ _ (Nat.lt_succ_self _) hi5 hl hP hD hS
/-! java/util/Arrays.fill([JJ)V -/
abbrev y_A_fillJ : MethodName := ⟨"java/util/Arrays", "fill", "([JJ)V"⟩
theorem d_A_fillJ_0 : decode prog_11_method_101_code 0 = .ok (.iconst 0, 1) := by decide +kernel
theorem d_A_fillJ_1 : decode prog_11_method_101_code 1 = .ok (.istore_n 3, 1) := by decide +kernel
theorem d_A_fillJ_2 : decode prog_11_method_101_code 2 = .ok (.aload_n 0, 1) := by decide +kernel
theorem d_A_fillJ_3 : decode prog_11_method_101_code 3 = .ok (.arraylength, 1) := by decide +kernel
theorem d_A_fillJ_4 : decode prog_11_method_101_code 4 = .ok (.istore 4, 2) := by decide +kernel
theorem d_A_fillJ_6 : decode prog_11_method_101_code 6 = .ok (.iload_n 3, 1) := by decide +kernel
theorem d_A_fillJ_7 : decode prog_11_method_101_code 7 = .ok (.iload 4, 2) := by decide +kernel
theorem d_A_fillJ_9 : decode prog_11_method_101_code 9 = .ok (.if_icmp .ge 13, 3) := by decide +kernel
theorem d_A_fillJ_12 : decode prog_11_method_101_code 12 = .ok (.aload_n 0, 1) := by decide +kernel
theorem d_A_fillJ_13 : decode prog_11_method_101_code 13 = .ok (.iload_n 3, 1) := by decide +kernel
theorem d_A_fillJ_14 : decode prog_11_method_101_code 14 = .ok (.lload_n 1, 1) := by decide +kernel
theorem d_A_fillJ_15 : decode prog_11_method_101_code 15 = .ok (.lastore, 1) := by decide +kernel
theorem d_A_fillJ_16 : decode prog_11_method_101_code 16 = .ok (.iinc 3 1, 3) := by decide +kernel
theorem d_A_fillJ_19 : decode prog_11_method_101_code 19 = .ok (.goto (-13), 3) := by decide +kernel
theorem d_A_fillJ_22 : decode prog_11_method_101_code 22 = .ok (.return_, 1) := by decide +kernel
abbrev WS_A_fillJ (cI cL cZ : ClassId) (n_g0 : Nat) (a_g0 : Nat) (v_g0 : (Nat → Int64)) : va_W := [(a_g0, .inl (cL, n_g0, .inr (.inl v_g0)))]
def wp_A_fillJ (n_g0 : Nat) (p1 : Int64) (v_g0 : (Nat → Int64)) (post : (Nat → Int64) → Prop) : Prop := (∀ x4 : Int32, x4 = (Int32.ofNat n_g0) → (∃ (I6 : Int32 → (Nat → Int64) → Prop) (μ6 : Int32 → (Nat → Int64) → Nat), I6 0 v_g0 ∧ ∀ (l3_6 : Int32) (v_g0_6 : (Nat → Int64)), I6 l3_6 v_g0_6 → ((x4 ≤ l3_6 → post v_g0_6) ∧ (¬ x4 ≤ l3_6 → (vp_in l3_6 n_g0 ∧ I6 (l3_6 + 1) (vp_updL v_g0_6 l3_6.toNatClampNeg p1) ∧ μ6 (l3_6 + 1) (vp_updL v_g0_6 l3_6.toNatClampNeg p1) < μ6 l3_6 v_g0_6)))))
abbrev ws_A_fillJ : List Cond := .code y_A_fillJ prog_11_method_101_code 5 none :: kxW
abbrev rm_A_fillJ : Room := { frames := 0, cells := 0, slots := 0, locals := 0 }
abbrev QC_A_fillJ (dC : Nat → ClassId) (dI : Nat → Nat → Nat) (cI cL cZ : ClassId) (A : Nat → Prop) (n_g0 : Nat) (a_g0 : Nat) (v_g0 : (Nat → Int64)) (post : (Nat → Int64) → Prop) : Array Value → State → Outcome → State → Prop := va_Qv post (fun (u : (Nat → Int64)) t => kx_B (dC, dI) classes A (WS_A_fillJ cI cL cZ n_g0 a_g0 u) t) A
set_option maxHeartbeats 4000000 in
set_option maxRecDepth 100000 in
theorem c_A_fillJ (l : Launch) (dC : Nat → ClassId) (dI : Nat → Nat → Nat) (cI cL cZ : ClassId) (n_g0 : Nat) (a_g0 : Nat) (v_g0 : (Nat → Int64)) (sz : Nat) (p1 : Int64) {post : (Nat → Int64) → Prop} (hw : wp_A_fillJ n_g0 p1 v_g0 post) : Met l y_A_fillJ ws_A_fillJ rm_A_fillJ (kx_Pc (dC, dI) classes (kx_T cI cL cZ) (WS_A_fillJ cI cL cZ n_g0 a_g0 v_g0) sz [.ref a_g0, .long p1]) (QC_A_fillJ dC dI cI cL cZ (va_A (WS_A_fillJ cI cL cZ n_g0 a_g0 v_g0) sz) n_g0 a_g0 v_g0 post) 0 0 (va_A (WS_A_fillJ cI cL cZ n_g0 a_g0 v_g0) sz) := by
  refine Met.ofW (cc := prog_11_method_101_code) (maxL := 5) (ret := none) (by decide) rfl ?_
  intro p e s m args below meth c s₁ B hml hv
  obtain ⟨rfl, hsz, hP, hK, hD0, hN⟩ := hv
  have hx := B.exec
  have hb := B.bytes
  have hr := B.returns
  have hts := atoms_spec (ws := ws_A_fillJ) B.pre
  have hown : s.vm.findClass R_A = some m.cls := findClass_of_methodNamed B.named
  have hlocks := B.notSynchronized
  subst hsz
  have hD := hD0.self (sz := s.heap.size)
  generalize hAe : va_A (WS_A_fillJ cI cL cZ n_g0 a_g0 v_g0) s.heap.size = A at hD ⊢
  have hA : ∀ q : Nat, s.heap.size ≤ q → A q := fun q h => by rw [← hAe]; exact Or.inr h
  have hS : va_S A s.heap s.heap [] := va_S.rf
  have hP : va_P (dC, dI) classes (WS_A_fillJ cI cL cZ n_g0 a_g0 v_g0) s.heap := hP
  have hl := lv_entry ([.ref a_g0, .long p1]) (n := 5) (Nat.le_of_ble_eq_true rfl)
  rw [lg_entry_eq]
  generalize (lg_sl ([.ref a_g0, .long p1]) ++ List.replicate (5 - (lg_sl ([.ref a_g0, .long p1])).length) Slot.unset).toArray = ls at hl ⊢
  have hl : lv_has ls 5 [(0, .ref a_g0), (1, .long p1)] := hl
  unfold wp_A_fillJ at hw
  refine (show ∀ (H : Heap) (locs : List Loc), va_P (dC, dI) classes (WS_A_fillJ cI cL cZ n_g0 a_g0 v_g0) H → va_S A s.heap H locs → W p l e (headSpec ws_A_fillJ rm_A_fillJ).room s m ([.ref a_g0, .long p1] : List Value).toArray below meth c H locs 0 0 (MQ below (QC_A_fillJ dC dI cI cL cZ A n_g0 a_g0 v_g0 post) ([.ref a_g0, .long p1] : List Value).toArray s 0 0 A) (F0 m 0 ls []) from ?_) _ _ hP hS
  intro H locs hP hS
  refine lv_iconst (v := 0) hx hb d_A_fillJ_0 (by decide) ?_
  refine lv_istore_n (lv' := [(3, .int 0), (0, .ref a_g0), (1, .long p1)]) hx hb d_A_fillJ_1 rfl hl (by decide) rfl (fun ls hl => ?_)
  refine lv_aload_n hx hb d_A_fillJ_2 rfl (lv_at hl 1 rfl) ?_
  refine va_alen (v := (Int32.ofNat n_g0)) hx hb hK hP 0 1 rfl rfl rfl d_A_fillJ_3 ?_
  refine lv_topi (fun x4 e4 => ?_)
  have hw := hw x4 e4
  refine lv_istore (lv' := [(4, .int x4), (3, .int 0), (0, .ref a_g0), (1, .long p1)]) hx hb d_A_fillJ_4 hl (by decide) rfl (fun ls hl => ?_)
  have hl := lv_sub hl [2, 3, 1, 0] rfl
  obtain ⟨I6, μ6, hi6, hs6⟩ := hw
  have L6 : ∀ (n : Nat) (l3_6 : Int32) (v_g0_6 : (Nat → Int64)) (H : Heap) (locs : List Loc) (ls : Array Slot), μ6 l3_6 v_g0_6 < n → I6 l3_6 v_g0_6 → lv_has ls 5 [(0, .ref a_g0), (1, .long p1), (3, .int l3_6), (4, .int x4)] → va_P (dC, dI) classes (WS_A_fillJ cI cL cZ n_g0 a_g0 v_g0_6) H → va_D A (WS_A_fillJ cI cL cZ n_g0 a_g0 v_g0_6) → va_S A s.heap H locs → W p l e (headSpec ws_A_fillJ rm_A_fillJ).room s m ([.ref a_g0, .long p1] : List Value).toArray below meth c H locs 0 0 (MQ below (QC_A_fillJ dC dI cI cL cZ A n_g0 a_g0 v_g0 post) ([.ref a_g0, .long p1] : List Value).toArray s 0 0 A) (F0 m 6 ls []) := by
    intro n
    induction n with
    | zero => intro l3_6 v_g0_6 H locs ls hn; exact absurd hn (Nat.not_lt_zero _)
    | succ n ih6 =>
      intro l3_6 v_g0_6 H locs ls hn6 hI hl hP hD hS
      have hw := hs6 l3_6 v_g0_6 hI
      refine lv_iload_n hx hb d_A_fillJ_6 rfl (lv_at hl 2 rfl) ?_
      refine lv_iload hx hb d_A_fillJ_7 (lv_at hl 3 rfl) ?_
      refine lv_icmp_ge (tgt := 22) hx hb d_A_fillJ_9 rfl (fun hc => ?_) (fun hc => ?_)
      ·
        have hw := hw.1 hc
        exact W.vret hx hb hr (fun t ht hW => ⟨⟨v_g0_6, rfl, hw, ⟨by rw [ht]; exact hP, hD⟩⟩, hS.F ht⟩) hS.2.2 d_A_fillJ_22
      ·
        have hw := hw.2 hc
        refine lv_aload_n hx hb d_A_fillJ_12 rfl (lv_at hl 0 rfl) ?_
        refine lv_iload_n hx hb d_A_fillJ_13 rfl (lv_at hl 2 rfl) ?_
        refine lv_lload_n hx hb d_A_fillJ_14 rfl (lv_at hl 1 rfl) ?_
        obtain ⟨hi, hw⟩ := hw
        refine va_last hx hb hK hP hD hS 0 1 rfl rfl hi d_A_fillJ_15 (fun H locs hP hD hS => ?_)
        have hP : va_P (dC, dI) classes (WS_A_fillJ cI cL cZ n_g0 a_g0 (vp_updL v_g0_6 l3_6.toNatClampNeg p1)) H := hP
        have hD : va_D A (WS_A_fillJ cI cL cZ n_g0 a_g0 (vp_updL v_g0_6 l3_6.toNatClampNeg p1)) := hD
        refine lv_iinc (v := (l3_6 + 1)) (lv' := [(3, .int (l3_6 + 1)), (0, .ref a_g0), (1, .long p1), (4, .int x4)]) hx hb d_A_fillJ_16 hl (k := 2) rfl rfl (by decide) rfl (fun ls hl => ?_)
        refine lv_goto (tgt := 6) hx hb d_A_fillJ_19 rfl ?_
        have hl := lv_sub hl [1, 2, 0, 3] rfl
        exact ih6 (l3_6 + 1) (vp_updL v_g0_6 l3_6.toNatClampNeg p1) _ _ _ (Nat.lt_of_lt_of_le hw.2 (Nat.le_of_lt_succ hn6)) hw.1 hl hP hD hS
  exact L6 _ 0 v_g0 _ _ _ (Nat.lt_succ_self _) hi6 hl hP hD hS
