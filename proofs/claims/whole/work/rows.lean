section
-- ===== PART A: goes FIRST, ahead of the names: the tables' words, and 'selects' of the private methods out of them =====
/-- a private method of a class that the tables say can be made, by its rows of tables_1 -/
def lw_okq (q : MethodName × Nat) : Prop := (q.1.cls ≠ "java/lang/invoke/MethodHandle" ∧ q.1.cls ≠ "java/lang/invoke/VarHandle") ∧ Cond.instantiable q.1.cls q.2 ∈ tables_1 ∧ Cond.privateMethod q.1 ∈ tables_1 ∧ Cond.instanceMethod q.1 ∈ tables_1
theorem lw_p0 : lw_okq (⟨"ConsolidationDesk", "isCompany", "(I)Z"⟩, 11) := ⟨⟨by decide +kernel, by decide +kernel⟩, List.mem_of_getElem? (i := 13) (by decide +kernel), List.mem_of_getElem? (i := 134) (by decide +kernel), List.mem_of_getElem? (i := 135) (by decide +kernel)⟩
theorem lw_p1 : lw_okq (⟨"ConsolidationDesk$Holdings", "heldInAll", "(I)I"⟩, 6) := ⟨⟨by decide +kernel, by decide +kernel⟩, List.mem_of_getElem? (i := 22) (by decide +kernel), List.mem_of_getElem? (i := 142) (by decide +kernel), List.mem_of_getElem? (i := 143) (by decide +kernel)⟩
theorem lw_p2 : lw_okq (⟨"ConsolidationDesk$Holdings", "hasTooLongChain", "()Z"⟩, 6) := ⟨⟨by decide +kernel, by decide +kernel⟩, List.mem_of_getElem? (i := 22) (by decide +kernel), List.mem_of_getElem? (i := 146) (by decide +kernel), List.mem_of_getElem? (i := 147) (by decide +kernel)⟩
theorem lw_p3 : lw_okq (⟨"ConsolidationDesk$Holdings", "lengthenChains", "(I)I"⟩, 6) := ⟨⟨by decide +kernel, by decide +kernel⟩, List.mem_of_getElem? (i := 22) (by decide +kernel), List.mem_of_getElem? (i := 153) (by decide +kernel), List.mem_of_getElem? (i := 154) (by decide +kernel)⟩
theorem lw_p4 : lw_okq (⟨"ConsolidationDesk$Holdings", "findControl", "()V"⟩, 6) := ⟨⟨by decide +kernel, by decide +kernel⟩, List.mem_of_getElem? (i := 22) (by decide +kernel), List.mem_of_getElem? (i := 160) (by decide +kernel), List.mem_of_getElem? (i := 161) (by decide +kernel)⟩
theorem lw_p5 : lw_okq (⟨"ConsolidationDesk$Holdings", "heldUnderControl", "(I)I"⟩, 6) := ⟨⟨by decide +kernel, by decide +kernel⟩, List.mem_of_getElem? (i := 22) (by decide +kernel), List.mem_of_getElem? (i := 164) (by decide +kernel), List.mem_of_getElem? (i := 165) (by decide +kernel)⟩
theorem lw_p6 : lw_okq (⟨"ConsolidationDesk$Holdings", "findShares", "()V"⟩, 6) := ⟨⟨by decide +kernel, by decide +kernel⟩, List.mem_of_getElem? (i := 22) (by decide +kernel), List.mem_of_getElem? (i := 168) (by decide +kernel), List.mem_of_getElem? (i := 169) (by decide +kernel)⟩
theorem lw_p7 : lw_okq (⟨"ConsolidationDesk$Holdings", "addLink", "()V"⟩, 6) := ⟨⟨by decide +kernel, by decide +kernel⟩, List.mem_of_getElem? (i := 22) (by decide +kernel), List.mem_of_getElem? (i := 175) (by decide +kernel), List.mem_of_getElem? (i := 176) (by decide +kernel)⟩
theorem lw_p8 : lw_okq (⟨"ConsolidationDesk", "isPlace", "(III)Z"⟩, 11) := ⟨⟨by decide +kernel, by decide +kernel⟩, List.mem_of_getElem? (i := 13) (by decide +kernel), List.mem_of_getElem? (i := 195) (by decide +kernel), List.mem_of_getElem? (i := 196) (by decide +kernel)⟩
theorem lw_p9 : lw_okq (⟨"ConsolidationDesk", "isAccount", "(I)Z"⟩, 11) := ⟨⟨by decide +kernel, by decide +kernel⟩, List.mem_of_getElem? (i := 13) (by decide +kernel), List.mem_of_getElem? (i := 199) (by decide +kernel), List.mem_of_getElem? (i := 200) (by decide +kernel)⟩
theorem lw_p10 : lw_okq (⟨"ConsolidationDesk", "isPartnerOf", "(II)Z"⟩, 11) := ⟨⟨by decide +kernel, by decide +kernel⟩, List.mem_of_getElem? (i := 13) (by decide +kernel), List.mem_of_getElem? (i := 203) (by decide +kernel), List.mem_of_getElem? (i := 204) (by decide +kernel)⟩
theorem lw_p11 : lw_okq (⟨"ConsolidationDesk", "takes", "(II)Z"⟩, 11) := ⟨⟨by decide +kernel, by decide +kernel⟩, List.mem_of_getElem? (i := 13) (by decide +kernel), List.mem_of_getElem? (i := 207) (by decide +kernel), List.mem_of_getElem? (i := 208) (by decide +kernel)⟩
theorem lw_p12 : lw_okq (⟨"ConsolidationDesk", "bookTotal", "(I)J"⟩, 11) := ⟨⟨by decide +kernel, by decide +kernel⟩, List.mem_of_getElem? (i := 13) (by decide +kernel), List.mem_of_getElem? (i := 224) (by decide +kernel), List.mem_of_getElem? (i := 225) (by decide +kernel)⟩
theorem lw_p13 : lw_okq (⟨"ConsolidationDesk", "findHindrance", "()I"⟩, 11) := ⟨⟨by decide +kernel, by decide +kernel⟩, List.mem_of_getElem? (i := 13) (by decide +kernel), List.mem_of_getElem? (i := 249) (by decide +kernel), List.mem_of_getElem? (i := 250) (by decide +kernel)⟩
theorem lw_p14 : lw_okq (⟨"ConsolidationDesk", "leastUnbalanced", "()I"⟩, 11) := ⟨⟨by decide +kernel, by decide +kernel⟩, List.mem_of_getElem? (i := 13) (by decide +kernel), List.mem_of_getElem? (i := 253) (by decide +kernel), List.mem_of_getElem? (i := 254) (by decide +kernel)⟩
theorem lw_p15 : lw_okq (⟨"ConsolidationDesk", "leastWithoutRates", "()I"⟩, 11) := ⟨⟨by decide +kernel, by decide +kernel⟩, List.mem_of_getElem? (i := 13) (by decide +kernel), List.mem_of_getElem? (i := 257) (by decide +kernel), List.mem_of_getElem? (i := 258) (by decide +kernel)⟩
def lw_privs_1 : List (MethodName × Nat) := [(⟨"ConsolidationDesk", "isCompany", "(I)Z"⟩, 11), (⟨"ConsolidationDesk$Holdings", "heldInAll", "(I)I"⟩, 6), (⟨"ConsolidationDesk$Holdings", "hasTooLongChain", "()Z"⟩, 6), (⟨"ConsolidationDesk$Holdings", "lengthenChains", "(I)I"⟩, 6), (⟨"ConsolidationDesk$Holdings", "findControl", "()V"⟩, 6), (⟨"ConsolidationDesk$Holdings", "heldUnderControl", "(I)I"⟩, 6), (⟨"ConsolidationDesk$Holdings", "findShares", "()V"⟩, 6), (⟨"ConsolidationDesk$Holdings", "addLink", "()V"⟩, 6), (⟨"ConsolidationDesk", "isPlace", "(III)Z"⟩, 11), (⟨"ConsolidationDesk", "isAccount", "(I)Z"⟩, 11), (⟨"ConsolidationDesk", "isPartnerOf", "(II)Z"⟩, 11), (⟨"ConsolidationDesk", "takes", "(II)Z"⟩, 11), (⟨"ConsolidationDesk", "bookTotal", "(I)J"⟩, 11), (⟨"ConsolidationDesk", "findHindrance", "()I"⟩, 11), (⟨"ConsolidationDesk", "leastUnbalanced", "()I"⟩, 11), (⟨"ConsolidationDesk", "leastWithoutRates", "()I"⟩, 11)]
theorem lw_r1 : ∀ q ∈ lw_privs_1, lw_okq q := List.forall_mem_cons.mpr ⟨lw_p0, List.forall_mem_cons.mpr ⟨lw_p1, List.forall_mem_cons.mpr ⟨lw_p2, List.forall_mem_cons.mpr ⟨lw_p3, List.forall_mem_cons.mpr ⟨lw_p4, List.forall_mem_cons.mpr ⟨lw_p5, List.forall_mem_cons.mpr ⟨lw_p6, List.forall_mem_cons.mpr ⟨lw_p7, List.forall_mem_cons.mpr ⟨lw_p8, List.forall_mem_cons.mpr ⟨lw_p9, List.forall_mem_cons.mpr ⟨lw_p10, List.forall_mem_cons.mpr ⟨lw_p11, List.forall_mem_cons.mpr ⟨lw_p12, List.forall_mem_cons.mpr ⟨lw_p13, List.forall_mem_cons.mpr ⟨lw_p14, List.forall_mem_cons.mpr ⟨lw_p15, fun _ h => absurd h List.not_mem_nil⟩⟩⟩⟩⟩⟩⟩⟩⟩⟩⟩⟩⟩⟩⟩⟩
theorem lw_p16 : lw_okq (⟨"ConsolidationDesk", "translateBook", "(I)V"⟩, 11) := ⟨⟨by decide +kernel, by decide +kernel⟩, List.mem_of_getElem? (i := 13) (by decide +kernel), List.mem_of_getElem? (i := 269) (by decide +kernel), List.mem_of_getElem? (i := 270) (by decide +kernel)⟩
theorem lw_p17 : lw_okq (⟨"ConsolidationDesk", "translatedSum", "(III)J"⟩, 11) := ⟨⟨by decide +kernel, by decide +kernel⟩, List.mem_of_getElem? (i := 13) (by decide +kernel), List.mem_of_getElem? (i := 273) (by decide +kernel), List.mem_of_getElem? (i := 274) (by decide +kernel)⟩
theorem lw_p18 : lw_okq (⟨"ConsolidationDesk", "eliminatePairs", "()V"⟩, 11) := ⟨⟨by decide +kernel, by decide +kernel⟩, List.mem_of_getElem? (i := 13) (by decide +kernel), List.mem_of_getElem? (i := 297) (by decide +kernel), List.mem_of_getElem? (i := 298) (by decide +kernel)⟩
theorem lw_p19 : lw_okq (⟨"ConsolidationDesk", "showOutsiders", "(I)V"⟩, 11) := ⟨⟨by decide +kernel, by decide +kernel⟩, List.mem_of_getElem? (i := 13) (by decide +kernel), List.mem_of_getElem? (i := 313) (by decide +kernel), List.mem_of_getElem? (i := 314) (by decide +kernel)⟩
theorem lw_p20 : lw_okq (⟨"java/lang/Throwable", "fillInStackTrace", "(I)Ljava/lang/Throwable;"⟩, 6) := ⟨⟨by decide +kernel, by decide +kernel⟩, List.mem_of_getElem? (i := 388) (by decide +kernel), List.mem_of_getElem? (i := 386) (by decide +kernel), List.mem_of_getElem? (i := 387) (by decide +kernel)⟩
theorem lw_p21 : lw_okq (⟨"ConsolidationDeskModel", "reserve", "()I"⟩, 16) := ⟨⟨by decide +kernel, by decide +kernel⟩, List.mem_of_getElem? (i := 469) (by decide +kernel), List.mem_of_getElem? (i := 537) (by decide +kernel), List.mem_of_getElem? (i := 538) (by decide +kernel)⟩
theorem lw_p22 : lw_okq (⟨"ConsolidationDeskModel", "isCompany", "(I)Z"⟩, 16) := ⟨⟨by decide +kernel, by decide +kernel⟩, List.mem_of_getElem? (i := 469) (by decide +kernel), List.mem_of_getElem? (i := 545) (by decide +kernel), List.mem_of_getElem? (i := 546) (by decide +kernel)⟩
theorem lw_p23 : lw_okq (⟨"ConsolidationDeskModel", "isTooLong", "()Z"⟩, 16) := ⟨⟨by decide +kernel, by decide +kernel⟩, List.mem_of_getElem? (i := 469) (by decide +kernel), List.mem_of_getElem? (i := 549) (by decide +kernel), List.mem_of_getElem? (i := 550) (by decide +kernel)⟩
theorem lw_p24 : lw_okq (⟨"ConsolidationDeskModel", "isAccount", "(I)Z"⟩, 16) := ⟨⟨by decide +kernel, by decide +kernel⟩, List.mem_of_getElem? (i := 469) (by decide +kernel), List.mem_of_getElem? (i := 562) (by decide +kernel), List.mem_of_getElem? (i := 563) (by decide +kernel)⟩
theorem lw_p25 : lw_okq (⟨"ConsolidationDeskModel", "isPartner", "(II)Z"⟩, 16) := ⟨⟨by decide +kernel, by decide +kernel⟩, List.mem_of_getElem? (i := 469) (by decide +kernel), List.mem_of_getElem? (i := 566) (by decide +kernel), List.mem_of_getElem? (i := 567) (by decide +kernel)⟩
theorem lw_p26 : lw_okq (⟨"ConsolidationDeskModel", "isControlled", "(I)Z"⟩, 16) := ⟨⟨by decide +kernel, by decide +kernel⟩, List.mem_of_getElem? (i := 469) (by decide +kernel), List.mem_of_getElem? (i := 596) (by decide +kernel), List.mem_of_getElem? (i := 597) (by decide +kernel)⟩
theorem lw_p27 : lw_okq (⟨"ConsolidationDeskModel", "weight", "(II)J"⟩, 16) := ⟨⟨by decide +kernel, by decide +kernel⟩, List.mem_of_getElem? (i := 469) (by decide +kernel), List.mem_of_getElem? (i := 606) (by decide +kernel), List.mem_of_getElem? (i := 607) (by decide +kernel)⟩
theorem lw_p28 : lw_okq (⟨"ConsolidationDeskModel", "translate", "(II)V"⟩, 16) := ⟨⟨by decide +kernel, by decide +kernel⟩, List.mem_of_getElem? (i := 469) (by decide +kernel), List.mem_of_getElem? (i := 617) (by decide +kernel), List.mem_of_getElem? (i := 618) (by decide +kernel)⟩
theorem lw_p29 : lw_okq (⟨"ConsolidationDeskModel", "total", "(II)J"⟩, 16) := ⟨⟨by decide +kernel, by decide +kernel⟩, List.mem_of_getElem? (i := 469) (by decide +kernel), List.mem_of_getElem? (i := 626) (by decide +kernel), List.mem_of_getElem? (i := 627) (by decide +kernel)⟩
theorem lw_p30 : lw_okq (⟨"ConsolidationDeskModel", "mark", "(I)V"⟩, 16) := ⟨⟨by decide +kernel, by decide +kernel⟩, List.mem_of_getElem? (i := 469) (by decide +kernel), List.mem_of_getElem? (i := 630) (by decide +kernel), List.mem_of_getElem? (i := 631) (by decide +kernel)⟩
theorem lw_p31 : lw_okq (⟨"ConsolidationDeskModel", "eliminate", "()V"⟩, 16) := ⟨⟨by decide +kernel, by decide +kernel⟩, List.mem_of_getElem? (i := 469) (by decide +kernel), List.mem_of_getElem? (i := 634) (by decide +kernel), List.mem_of_getElem? (i := 635) (by decide +kernel)⟩
def lw_privs_2 : List (MethodName × Nat) := [(⟨"ConsolidationDesk", "translateBook", "(I)V"⟩, 11), (⟨"ConsolidationDesk", "translatedSum", "(III)J"⟩, 11), (⟨"ConsolidationDesk", "eliminatePairs", "()V"⟩, 11), (⟨"ConsolidationDesk", "showOutsiders", "(I)V"⟩, 11), (⟨"java/lang/Throwable", "fillInStackTrace", "(I)Ljava/lang/Throwable;"⟩, 6), (⟨"ConsolidationDeskModel", "reserve", "()I"⟩, 16), (⟨"ConsolidationDeskModel", "isCompany", "(I)Z"⟩, 16), (⟨"ConsolidationDeskModel", "isTooLong", "()Z"⟩, 16), (⟨"ConsolidationDeskModel", "isAccount", "(I)Z"⟩, 16), (⟨"ConsolidationDeskModel", "isPartner", "(II)Z"⟩, 16), (⟨"ConsolidationDeskModel", "isControlled", "(I)Z"⟩, 16), (⟨"ConsolidationDeskModel", "weight", "(II)J"⟩, 16), (⟨"ConsolidationDeskModel", "translate", "(II)V"⟩, 16), (⟨"ConsolidationDeskModel", "total", "(II)J"⟩, 16), (⟨"ConsolidationDeskModel", "mark", "(I)V"⟩, 16), (⟨"ConsolidationDeskModel", "eliminate", "()V"⟩, 16)]
theorem lw_r2 : ∀ q ∈ lw_privs_2, lw_okq q := List.forall_mem_cons.mpr ⟨lw_p16, List.forall_mem_cons.mpr ⟨lw_p17, List.forall_mem_cons.mpr ⟨lw_p18, List.forall_mem_cons.mpr ⟨lw_p19, List.forall_mem_cons.mpr ⟨lw_p20, List.forall_mem_cons.mpr ⟨lw_p21, List.forall_mem_cons.mpr ⟨lw_p22, List.forall_mem_cons.mpr ⟨lw_p23, List.forall_mem_cons.mpr ⟨lw_p24, List.forall_mem_cons.mpr ⟨lw_p25, List.forall_mem_cons.mpr ⟨lw_p26, List.forall_mem_cons.mpr ⟨lw_p27, List.forall_mem_cons.mpr ⟨lw_p28, List.forall_mem_cons.mpr ⟨lw_p29, List.forall_mem_cons.mpr ⟨lw_p30, List.forall_mem_cons.mpr ⟨lw_p31, fun _ h => absurd h List.not_mem_nil⟩⟩⟩⟩⟩⟩⟩⟩⟩⟩⟩⟩⟩⟩⟩⟩
theorem lw_p32 : lw_okq (⟨"ConsolidationDeskModel", "open", "(III)V"⟩, 16) := ⟨⟨by decide +kernel, by decide +kernel⟩, List.mem_of_getElem? (i := 469) (by decide +kernel), List.mem_of_getElem? (i := 638) (by decide +kernel), List.mem_of_getElem? (i := 639) (by decide +kernel)⟩
theorem lw_p33 : lw_okq (⟨"ConsolidationDeskModel", "share", "(II)V"⟩, 16) := ⟨⟨by decide +kernel, by decide +kernel⟩, List.mem_of_getElem? (i := 469) (by decide +kernel), List.mem_of_getElem? (i := 642) (by decide +kernel), List.mem_of_getElem? (i := 643) (by decide +kernel)⟩
def lw_privs_3 : List (MethodName × Nat) := [(⟨"ConsolidationDeskModel", "open", "(III)V"⟩, 16), (⟨"ConsolidationDeskModel", "share", "(II)V"⟩, 16)]
theorem lw_r3 : ∀ q ∈ lw_privs_3, lw_okq q := List.forall_mem_cons.mpr ⟨lw_p32, List.forall_mem_cons.mpr ⟨lw_p33, fun _ h => absurd h List.not_mem_nil⟩⟩
def lw_privs : List (MethodName × Nat) := lw_privs_1 ++ (lw_privs_2 ++ (lw_privs_3))
def lw_tbl : List Cond := k2_sels lw_privs ++ tables_1
theorem lw_privs_ok : ∀ q ∈ lw_privs, lw_okq q := by
  show ∀ q ∈ lw_privs_1 ++ (lw_privs_2 ++ (lw_privs_3)), lw_okq q
  exact List.forall_mem_append.mpr ⟨lw_r1, List.forall_mem_append.mpr ⟨lw_r2, lw_r3⟩⟩
end
section
/-! my own combinators over the kit's rows: the words that every method carries; a contract's start, its end, a call -/
def kxW : List Cond := lw_tbl.filter goodWord
theorem kx_w {c w : Cond} (h : w ∈ kxW) : w ∈ c :: kxW := List.mem_cons_of_mem _ h
theorem kx_in {c : Cond} {u : List Cond} (h : ∀ w ∈ u, w ∈ kxW) : ∀ w ∈ u, w ∈ c :: kxW := fun w q => kx_w (h w q)
theorem kx_good {c0 c : Cond} (hc : c ∈ kxW) : GoodIn (c0 :: kxW) (c :: kxW) := fun w h => by
  have hw : w ∈ kxW := by
    rcases List.mem_cons.mp h with rfl | h
    · exact hc
    · exact h
  exact ⟨kx_w hw, good_of_word (List.mem_filter.mp hw).2⟩
abbrev kx_T (cI cL cZ : ClassId) : List (ClassId × FieldType) := [(cI, .int), (cL, .long), (cZ, .boolean)]
def kx_B (D : va_G) (cl : List vw_C) (A : Nat → Prop) (ws : va_W) (t : State) : Prop := va_P D cl ws t.heap ∧ va_D A ws
def kx_Pc (D : va_G) (cl : List vw_C) (tys : List (ClassId × FieldType)) (ws : va_W) (sz : Nat) (av : List Value) : Array Value → State → Prop := va_Pc av (fun U => U.heap.size = sz ∧ va_P D cl ws U.heap ∧ va_K D cl tys U ∧ va_D (fun _ => True) ws)
theorem kx_fm {α β : Type} {f : α → Option β} : ∀ {is : List α} {w : List β}, is.map f = w.map some → is.filterMap f = w
  | [], [], _ => rfl
  | [], _ :: _, h => by simp at h
  | _ :: _, [], h => by simp at h
  | i :: is, b :: w, h => by
    simp only [List.map_cons, List.cons.injEq] at h
    rw [List.filterMap_cons, h.1]
    show b :: _ = _
    rw [kx_fm h.2]
theorem kx_blind {D : va_G} {cl : List vw_C} {tys : List (ClassId × FieldType)} {ws : va_W} {sz : Nat} {av : List Value} : FrameBlind (kx_Pc D cl tys ws sz av) := fun a U g mk q => by
  obtain ⟨q0, q1, qP, qK, qD⟩ := q
  exact ⟨q0, q1, qP, va_K.moved (u := U) (U := U.calling g mk a) (Vm.Alike.refl U.vm) qK, qD⟩
theorem kx_preS {s : State} {H : Heap} {D : va_G} {cl : List vw_C} {tys : List (ClassId × FieldType)} {ws wc : va_W} {A : Nat → Prop} {As : List Value} (hK : va_K D cl tys s) (hP : va_P D cl ws H) (hD : va_D A ws) (isC : List Nat) (hn : va_nd isC = true) (hC : isC.map (fun i => ws[i]?) = wc.map some) : PreS s H (kx_Pc D cl tys wc H.size As) As :=
  ⟨kx_blind, fun U hU hW => ⟨rfl, by rw [hU], by rw [hU]; exact hP.sub isC (kx_fm hC), va_K.moved hW.alike hK, (hD.sub isC hn hC).weaken (fun _ _ _ _ => trivial)⟩⟩
theorem kx_preV {s : State} {H : Heap} {D : va_G} {cl : List vw_C} {tys : List (ClassId × FieldType)} {ws wc : va_W} {A : Nat → Prop} {As : List Value} {b ci : Nat} {fs : List Value} {q : vw_C} (hK : va_K D cl tys s) (hP : va_P D cl ws H) (hD : va_D A ws) (isC : List Nat) (hn : va_nd isC = true) (hC : isC.map (fun i => ws[i]?) = wc.map some) (q0 : Nat) (he : ws[q0]? = some (b, .inr (ci, fs))) (hc : cl[ci]? = some q) : PreV s H q.1 b (kx_Pc D cl tys wc H.size (.ref b :: As)) As :=
  ⟨kx_blind, va_recv hK hP hc he, fun U hU hW => ⟨rfl, by rw [hU], by rw [hU]; exact hP.sub isC (kx_fm hC), va_K.moved hW.alike hK, (hD.sub isC hn hC).weaken (fun _ _ _ _ => trivial)⟩⟩
section KXC
variable {p : Program} {l : Launch} {e : Env} {R : Room} {s : State} {m : MethodId} {args : Array Value} {below : List Frame} {meth : Method} {c : Code} {H : Heap} {locs : List Loc} {cells slots : Nat} {Q : State → Prop}
variable {pc : Nat} {ls : Array Slot} {rest st0 : List Value} {a : Array Value} {A : Nat → Prop} {H0 : Heap} {mc ms : Nat} {D : va_G} {cl : List vw_C} {ws wc : va_W}
theorem kx_back {S : Type} {w1 : S → va_W} {ws' : S → va_W} (hP : va_P D cl ws H) (hD : va_D A ws) (hS : va_S A H0 H locs) (hA : ∀ q, H0.size ≤ q → A q) (isC isR : List Nat) (hC : isC.map (fun i => ws[i]?) = wc.map some) (hR : isR.map (fun i => ws[i]?) = (isR.filterMap (fun i => ws[i]?)).map some) (hn : va_nd isR = true) (hdis : ∀ i ∈ isR, i ∉ isC)
    (perm : List Nat) (hpn : va_nd perm = true) (hperm : ∀ u, perm.map (fun i => (isR.filterMap (fun i => ws[i]?) ++ w1 u)[i]?) = (ws' u).map some) {u : S} {t : State} {H1 : Heap} (ht : t.heap = H1) (hB : kx_B D cl (va_A wc H.size) (w1 u) t) (hk1 : ∀ q : Nat, q < H.size → ¬ va_A wc H.size q → H1[q]? = H[q]?) : va_P D cl (ws' u) H1 ∧ va_D A (ws' u) := by
  obtain ⟨hP1, hD1⟩ := hB
  rw [ht] at hP1
  obtain ⟨h1, h2⟩ := va_join hP hD isC isR hC hR hn hdis hk1 (va_free hD hS hA isC hC) hP1 hD1
  exact ⟨h1.sub perm (kx_fm (hperm u)), h2.sub perm hpn (hperm u)⟩
theorem kx_calli {S : Type} {post : Int32 → S → Prop} {w1 : S → va_W} {ws' : S → va_W} (hr : va_Run p l e R s m args below meth c H locs cells slots mc ms (F0 m pc ls st0) rest (va_Qi post (fun u t => kx_B D cl (va_A wc H.size) (w1 u) t) (va_A wc H.size) a) (va_A wc H.size))
    (hP : va_P D cl ws H) (hD : va_D A ws) (hS : va_S A H0 H locs) (hA : ∀ q, H0.size ≤ q → A q) (isC isR : List Nat) (hC : isC.map (fun i => ws[i]?) = wc.map some) (hR : isR.map (fun i => ws[i]?) = (isR.filterMap (fun i => ws[i]?)).map some) (hn : va_nd isR = true) (hdis : ∀ i ∈ isR, i ∉ isC)
    (perm : List Nat) (hpn : va_nd perm = true) (hperm : ∀ u, perm.map (fun i => (isR.filterMap (fun i => ws[i]?) ++ w1 u)[i]?) = (ws' u).map some)
    (kk : ∀ (r : Int32) (u : S) (H1 : Heap) (locs1 : List Loc), post r u → va_P D cl (ws' u) H1 → va_D A (ws' u) → va_S A H0 H1 locs1 → W p l e R s m args below meth c H1 locs1 (cells + mc) (slots + ms) Q (F0 m (pc + 3) ls (.int r :: rest))) : W p l e R s m args below meth c H locs cells slots Q (F0 m pc ls st0) := by
  have hF := va_free hD hS hA isC hC
  refine va_calli hr hS (fun q _ h => hF q h) hF (fun r u t H1 locs1 ht hvm hw hB hz1 hk1 hS1 => ?_)
  obtain ⟨h1, h2⟩ := kx_back hP hD hS hA isC isR hC hR hn hdis perm hpn hperm ht hB hk1
  exact kk r u H1 locs1 hw h1 h2 hS1
theorem kx_calll {S : Type} {post : Int64 → S → Prop} {w1 : S → va_W} {ws' : S → va_W} (hr : va_Run p l e R s m args below meth c H locs cells slots mc ms (F0 m pc ls st0) rest (va_Ql post (fun u t => kx_B D cl (va_A wc H.size) (w1 u) t) (va_A wc H.size) a) (va_A wc H.size))
    (hP : va_P D cl ws H) (hD : va_D A ws) (hS : va_S A H0 H locs) (hA : ∀ q, H0.size ≤ q → A q) (isC isR : List Nat) (hC : isC.map (fun i => ws[i]?) = wc.map some) (hR : isR.map (fun i => ws[i]?) = (isR.filterMap (fun i => ws[i]?)).map some) (hn : va_nd isR = true) (hdis : ∀ i ∈ isR, i ∉ isC)
    (perm : List Nat) (hpn : va_nd perm = true) (hperm : ∀ u, perm.map (fun i => (isR.filterMap (fun i => ws[i]?) ++ w1 u)[i]?) = (ws' u).map some)
    (kk : ∀ (r : Int64) (u : S) (H1 : Heap) (locs1 : List Loc), post r u → va_P D cl (ws' u) H1 → va_D A (ws' u) → va_S A H0 H1 locs1 → W p l e R s m args below meth c H1 locs1 (cells + mc) (slots + ms) Q (F0 m (pc + 3) ls (.long r :: rest))) : W p l e R s m args below meth c H locs cells slots Q (F0 m pc ls st0) := by
  have hF := va_free hD hS hA isC hC
  refine va_calll hr hS (fun q _ h => hF q h) hF (fun r u t H1 locs1 ht hvm hw hB hz1 hk1 hS1 => ?_)
  obtain ⟨h1, h2⟩ := kx_back hP hD hS hA isC isR hC hR hn hdis perm hpn hperm ht hB hk1
  exact kk r u H1 locs1 hw h1 h2 hS1
theorem kx_callv {S : Type} {post : S → Prop} {w1 : S → va_W} {ws' : S → va_W} (hr : va_Run p l e R s m args below meth c H locs cells slots mc ms (F0 m pc ls st0) rest (va_Qv post (fun u t => kx_B D cl (va_A wc H.size) (w1 u) t) (va_A wc H.size) a) (va_A wc H.size))
    (hP : va_P D cl ws H) (hD : va_D A ws) (hS : va_S A H0 H locs) (hA : ∀ q, H0.size ≤ q → A q) (isC isR : List Nat) (hC : isC.map (fun i => ws[i]?) = wc.map some) (hR : isR.map (fun i => ws[i]?) = (isR.filterMap (fun i => ws[i]?)).map some) (hn : va_nd isR = true) (hdis : ∀ i ∈ isR, i ∉ isC)
    (perm : List Nat) (hpn : va_nd perm = true) (hperm : ∀ u, perm.map (fun i => (isR.filterMap (fun i => ws[i]?) ++ w1 u)[i]?) = (ws' u).map some)
    (kk : ∀ (u : S) (H1 : Heap) (locs1 : List Loc), post u → va_P D cl (ws' u) H1 → va_D A (ws' u) → va_S A H0 H1 locs1 → W p l e R s m args below meth c H1 locs1 (cells + mc) (slots + ms) Q (F0 m (pc + 3) ls rest)) : W p l e R s m args below meth c H locs cells slots Q (F0 m pc ls st0) := by
  have hF := va_free hD hS hA isC hC
  refine va_callv hr hS (fun q _ h => hF q h) hF (fun u t H1 locs1 ht hvm hw hB hz1 hk1 hS1 => ?_)
  obtain ⟨h1, h2⟩ := kx_back hP hD hS hA isC isR hC hR hn hdis perm hpn hperm ht hB hk1
  exact kk u H1 locs1 hw h1 h2 hS1
end KXC
/-! lcmp and a branch behind it -/
theorem lc_lt (x y : Int64) : lg_cmp x y < 0 ↔ x < y := lg_cmp_lt x y
theorem lc_gt (x y : Int64) : 0 < lg_cmp x y ↔ y < x := lg_cmp_gt x y
theorem lc_eq (x y : Int64) : lg_cmp x y = 0 ↔ x = y := lg_cmp_eq x y
theorem lc_ne (x y : Int64) : (¬ lg_cmp x y = 0) ↔ ¬ x = y := not_congr (lc_eq x y)
theorem lc_ge (x y : Int64) : 0 ≤ lg_cmp x y ↔ y ≤ x := lg_cmp_ge x y
theorem lc_le (x y : Int64) : lg_cmp x y ≤ 0 ↔ x ≤ y := lg_cmp_le x y
end
section
theorem iw_2 : (Jvm.Cond.initialized "ConsolidationDesk$Holdings") ∈ kxW := List.mem_filter.mpr ⟨List.mem_append_right _ (List.mem_of_getElem? (i := 2) (by decide +kernel)), by decide +kernel⟩
theorem iw_5 : (Jvm.Cond.initialized "java/util/Arrays") ∈ kxW := List.mem_filter.mpr ⟨List.mem_append_right _ (List.mem_of_getElem? (i := 5) (by decide +kernel)), by decide +kernel⟩
theorem iw_6 : (Jvm.Cond.initialized "java/lang/Math") ∈ kxW := List.mem_filter.mpr ⟨List.mem_append_right _ (List.mem_of_getElem? (i := 6) (by decide +kernel)), by decide +kernel⟩
theorem iw_7 : (Jvm.Cond.initialized "java/lang/System") ∈ kxW := List.mem_filter.mpr ⟨List.mem_append_right _ (List.mem_of_getElem? (i := 7) (by decide +kernel)), by decide +kernel⟩
theorem iw_27 : (Jvm.Cond.constantLong "ConsolidationDesk$Holdings" (32 : Nat) (10000000000000000 : Int64)) ∈ kxW := List.mem_filter.mpr ⟨List.mem_append_right _ (List.mem_of_getElem? (i := 27) (by decide +kernel)), by decide +kernel⟩
theorem iw_28 : (Jvm.Cond.fieldLink "ConsolidationDesk$Holdings" (9 : Nat) "ConsolidationDesk$Holdings" "parts" "[I") ∈ kxW := List.mem_filter.mpr ⟨List.mem_append_right _ (List.mem_of_getElem? (i := 28) (by decide +kernel)), by decide +kernel⟩
theorem iw_29 : (Jvm.Cond.fieldLink "ConsolidationDesk$Holdings" (15 : Nat) "ConsolidationDesk$Holdings" "chainLengths" "[I") ∈ kxW := List.mem_filter.mpr ⟨List.mem_append_right _ (List.mem_of_getElem? (i := 29) (by decide +kernel)), by decide +kernel⟩
theorem iw_30 : (Jvm.Cond.fieldLink "ConsolidationDesk$Holdings" (18 : Nat) "ConsolidationDesk$Holdings" "underControl" "[Z") ∈ kxW := List.mem_filter.mpr ⟨List.mem_append_right _ (List.mem_of_getElem? (i := 30) (by decide +kernel)), by decide +kernel⟩
theorem iw_31 : (Jvm.Cond.fieldLink "ConsolidationDesk$Holdings" (22 : Nat) "ConsolidationDesk$Holdings" "shares" "[J") ∈ kxW := List.mem_filter.mpr ⟨List.mem_append_right _ (List.mem_of_getElem? (i := 31) (by decide +kernel)), by decide +kernel⟩
theorem iw_32 : (Jvm.Cond.fieldLink "ConsolidationDesk$Holdings" (26 : Nat) "ConsolidationDesk$Holdings" "chainShares" "[J") ∈ kxW := List.mem_filter.mpr ⟨List.mem_append_right _ (List.mem_of_getElem? (i := 32) (by decide +kernel)), by decide +kernel⟩
theorem iw_33 : (Jvm.Cond.fieldLink "ConsolidationDesk$Holdings" (29 : Nat) "ConsolidationDesk$Holdings" "longerChainShares" "[J") ∈ kxW := List.mem_filter.mpr ⟨List.mem_append_right _ (List.mem_of_getElem? (i := 33) (by decide +kernel)), by decide +kernel⟩
theorem iw_141 : (Jvm.Cond.methodLink "ConsolidationDesk$Holdings" (34 : Nat) ({ cls := "ConsolidationDesk$Holdings", name := "heldInAll", desc := "(I)I" } : Jvm.MethodName)) ∈ kxW := List.mem_filter.mpr ⟨List.mem_append_right _ (List.mem_of_getElem? (i := 141) (by decide +kernel)), by decide +kernel⟩
theorem iw_143 : (Jvm.Cond.instanceMethod ({ cls := "ConsolidationDesk$Holdings", name := "heldInAll", desc := "(I)I" } : Jvm.MethodName)) ∈ kxW := List.mem_filter.mpr ⟨List.mem_append_right _ (List.mem_of_getElem? (i := 143) (by decide +kernel)), by decide +kernel⟩
theorem iw_144 : (Jvm.Cond.code ({ cls := "ConsolidationDesk$Holdings", name := "heldInAll", desc := "(I)I" } : Jvm.MethodName) prog_2_method_5_code (4 : Nat) (Option.some Jvm.ClassFile.FieldType.int)) ∈ kxW := List.mem_filter.mpr ⟨List.mem_append_right _ (List.mem_of_getElem? (i := 144) (by decide +kernel)), by decide +kernel⟩
theorem iw_145 : (Jvm.Cond.methodLink "ConsolidationDesk$Holdings" (38 : Nat) ({ cls := "ConsolidationDesk$Holdings", name := "hasTooLongChain", desc := "()Z" } : Jvm.MethodName)) ∈ kxW := List.mem_filter.mpr ⟨List.mem_append_right _ (List.mem_of_getElem? (i := 145) (by decide +kernel)), by decide +kernel⟩
theorem iw_147 : (Jvm.Cond.instanceMethod ({ cls := "ConsolidationDesk$Holdings", name := "hasTooLongChain", desc := "()Z" } : Jvm.MethodName)) ∈ kxW := List.mem_filter.mpr ⟨List.mem_append_right _ (List.mem_of_getElem? (i := 147) (by decide +kernel)), by decide +kernel⟩
theorem iw_148 : (Jvm.Cond.code ({ cls := "ConsolidationDesk$Holdings", name := "hasTooLongChain", desc := "()Z" } : Jvm.MethodName) prog_2_method_6_code (3 : Nat) (Option.some Jvm.ClassFile.FieldType.boolean)) ∈ kxW := List.mem_filter.mpr ⟨List.mem_append_right _ (List.mem_of_getElem? (i := 148) (by decide +kernel)), by decide +kernel⟩
theorem iw_149 : (Jvm.Cond.methodLink "ConsolidationDesk$Holdings" (48 : Nat) ({ cls := "java/util/Arrays", name := "fill", desc := "([II)V" } : Jvm.MethodName)) ∈ kxW := List.mem_filter.mpr ⟨List.mem_append_right _ (List.mem_of_getElem? (i := 149) (by decide +kernel)), by decide +kernel⟩
theorem iw_150 : (Jvm.Cond.static ({ cls := "java/util/Arrays", name := "fill", desc := "([II)V" } : Jvm.MethodName)) ∈ kxW := List.mem_filter.mpr ⟨List.mem_append_right _ (List.mem_of_getElem? (i := 150) (by decide +kernel)), by decide +kernel⟩
theorem iw_151 : (Jvm.Cond.code ({ cls := "java/util/Arrays", name := "fill", desc := "([II)V" } : Jvm.MethodName) prog_11_method_103_code (4 : Nat) (Option.none : Option Jvm.ClassFile.FieldType)) ∈ kxW := List.mem_filter.mpr ⟨List.mem_append_right _ (List.mem_of_getElem? (i := 151) (by decide +kernel)), by decide +kernel⟩
theorem iw_152 : (Jvm.Cond.methodLink "ConsolidationDesk$Holdings" (54 : Nat) ({ cls := "ConsolidationDesk$Holdings", name := "lengthenChains", desc := "(I)I" } : Jvm.MethodName)) ∈ kxW := List.mem_filter.mpr ⟨List.mem_append_right _ (List.mem_of_getElem? (i := 152) (by decide +kernel)), by decide +kernel⟩
theorem iw_154 : (Jvm.Cond.instanceMethod ({ cls := "ConsolidationDesk$Holdings", name := "lengthenChains", desc := "(I)I" } : Jvm.MethodName)) ∈ kxW := List.mem_filter.mpr ⟨List.mem_append_right _ (List.mem_of_getElem? (i := 154) (by decide +kernel)), by decide +kernel⟩
theorem iw_155 : (Jvm.Cond.code ({ cls := "ConsolidationDesk$Holdings", name := "lengthenChains", desc := "(I)I" } : Jvm.MethodName) prog_2_method_7_code (6 : Nat) (Option.some Jvm.ClassFile.FieldType.int)) ∈ kxW := List.mem_filter.mpr ⟨List.mem_append_right _ (List.mem_of_getElem? (i := 155) (by decide +kernel)), by decide +kernel⟩
theorem iw_156 : (Jvm.Cond.methodLink "ConsolidationDesk$Holdings" (57 : Nat) ({ cls := "java/lang/Math", name := "max", desc := "(II)I" } : Jvm.MethodName)) ∈ kxW := List.mem_filter.mpr ⟨List.mem_append_right _ (List.mem_of_getElem? (i := 156) (by decide +kernel)), by decide +kernel⟩
theorem iw_157 : (Jvm.Cond.static ({ cls := "java/lang/Math", name := "max", desc := "(II)I" } : Jvm.MethodName)) ∈ kxW := List.mem_filter.mpr ⟨List.mem_append_right _ (List.mem_of_getElem? (i := 157) (by decide +kernel)), by decide +kernel⟩
theorem iw_158 : (Jvm.Cond.code ({ cls := "java/lang/Math", name := "max", desc := "(II)I" } : Jvm.MethodName) prog_7_method_65_code (2 : Nat) (Option.some Jvm.ClassFile.FieldType.int)) ∈ kxW := List.mem_filter.mpr ⟨List.mem_append_right _ (List.mem_of_getElem? (i := 158) (by decide +kernel)), by decide +kernel⟩
theorem iw_159 : (Jvm.Cond.methodLink "ConsolidationDesk$Holdings" (42 : Nat) ({ cls := "ConsolidationDesk$Holdings", name := "findControl", desc := "()V" } : Jvm.MethodName)) ∈ kxW := List.mem_filter.mpr ⟨List.mem_append_right _ (List.mem_of_getElem? (i := 159) (by decide +kernel)), by decide +kernel⟩
theorem iw_161 : (Jvm.Cond.instanceMethod ({ cls := "ConsolidationDesk$Holdings", name := "findControl", desc := "()V" } : Jvm.MethodName)) ∈ kxW := List.mem_filter.mpr ⟨List.mem_append_right _ (List.mem_of_getElem? (i := 161) (by decide +kernel)), by decide +kernel⟩
theorem iw_162 : (Jvm.Cond.code ({ cls := "ConsolidationDesk$Holdings", name := "findControl", desc := "()V" } : Jvm.MethodName) prog_2_method_8_code (3 : Nat) (Option.none : Option Jvm.ClassFile.FieldType)) ∈ kxW := List.mem_filter.mpr ⟨List.mem_append_right _ (List.mem_of_getElem? (i := 162) (by decide +kernel)), by decide +kernel⟩
theorem iw_163 : (Jvm.Cond.methodLink "ConsolidationDesk$Holdings" (63 : Nat) ({ cls := "ConsolidationDesk$Holdings", name := "heldUnderControl", desc := "(I)I" } : Jvm.MethodName)) ∈ kxW := List.mem_filter.mpr ⟨List.mem_append_right _ (List.mem_of_getElem? (i := 163) (by decide +kernel)), by decide +kernel⟩
theorem iw_165 : (Jvm.Cond.instanceMethod ({ cls := "ConsolidationDesk$Holdings", name := "heldUnderControl", desc := "(I)I" } : Jvm.MethodName)) ∈ kxW := List.mem_filter.mpr ⟨List.mem_append_right _ (List.mem_of_getElem? (i := 165) (by decide +kernel)), by decide +kernel⟩
theorem iw_166 : (Jvm.Cond.code ({ cls := "ConsolidationDesk$Holdings", name := "heldUnderControl", desc := "(I)I" } : Jvm.MethodName) prog_2_method_9_code (4 : Nat) (Option.some Jvm.ClassFile.FieldType.int)) ∈ kxW := List.mem_filter.mpr ⟨List.mem_append_right _ (List.mem_of_getElem? (i := 166) (by decide +kernel)), by decide +kernel⟩
theorem iw_167 : (Jvm.Cond.methodLink "ConsolidationDesk$Holdings" (45 : Nat) ({ cls := "ConsolidationDesk$Holdings", name := "findShares", desc := "()V" } : Jvm.MethodName)) ∈ kxW := List.mem_filter.mpr ⟨List.mem_append_right _ (List.mem_of_getElem? (i := 167) (by decide +kernel)), by decide +kernel⟩
theorem iw_169 : (Jvm.Cond.instanceMethod ({ cls := "ConsolidationDesk$Holdings", name := "findShares", desc := "()V" } : Jvm.MethodName)) ∈ kxW := List.mem_filter.mpr ⟨List.mem_append_right _ (List.mem_of_getElem? (i := 169) (by decide +kernel)), by decide +kernel⟩
theorem iw_170 : (Jvm.Cond.code ({ cls := "ConsolidationDesk$Holdings", name := "findShares", desc := "()V" } : Jvm.MethodName) prog_2_method_10_code (3 : Nat) (Option.none : Option Jvm.ClassFile.FieldType)) ∈ kxW := List.mem_filter.mpr ⟨List.mem_append_right _ (List.mem_of_getElem? (i := 170) (by decide +kernel)), by decide +kernel⟩
theorem iw_171 : (Jvm.Cond.methodLink "ConsolidationDesk$Holdings" (66 : Nat) ({ cls := "java/util/Arrays", name := "fill", desc := "([JJ)V" } : Jvm.MethodName)) ∈ kxW := List.mem_filter.mpr ⟨List.mem_append_right _ (List.mem_of_getElem? (i := 171) (by decide +kernel)), by decide +kernel⟩
theorem iw_172 : (Jvm.Cond.static ({ cls := "java/util/Arrays", name := "fill", desc := "([JJ)V" } : Jvm.MethodName)) ∈ kxW := List.mem_filter.mpr ⟨List.mem_append_right _ (List.mem_of_getElem? (i := 172) (by decide +kernel)), by decide +kernel⟩
theorem iw_173 : (Jvm.Cond.code ({ cls := "java/util/Arrays", name := "fill", desc := "([JJ)V" } : Jvm.MethodName) prog_11_method_101_code (5 : Nat) (Option.none : Option Jvm.ClassFile.FieldType)) ∈ kxW := List.mem_filter.mpr ⟨List.mem_append_right _ (List.mem_of_getElem? (i := 173) (by decide +kernel)), by decide +kernel⟩
theorem iw_174 : (Jvm.Cond.methodLink "ConsolidationDesk$Holdings" (69 : Nat) ({ cls := "ConsolidationDesk$Holdings", name := "addLink", desc := "()V" } : Jvm.MethodName)) ∈ kxW := List.mem_filter.mpr ⟨List.mem_append_right _ (List.mem_of_getElem? (i := 174) (by decide +kernel)), by decide +kernel⟩
theorem iw_176 : (Jvm.Cond.instanceMethod ({ cls := "ConsolidationDesk$Holdings", name := "addLink", desc := "()V" } : Jvm.MethodName)) ∈ kxW := List.mem_filter.mpr ⟨List.mem_append_right _ (List.mem_of_getElem? (i := 176) (by decide +kernel)), by decide +kernel⟩
theorem iw_177 : (Jvm.Cond.code ({ cls := "ConsolidationDesk$Holdings", name := "addLink", desc := "()V" } : Jvm.MethodName) prog_2_method_11_code (5 : Nat) (Option.none : Option Jvm.ClassFile.FieldType)) ∈ kxW := List.mem_filter.mpr ⟨List.mem_append_right _ (List.mem_of_getElem? (i := 177) (by decide +kernel)), by decide +kernel⟩
theorem iw_178 : (Jvm.Cond.constantLong "ConsolidationDesk$Holdings" (72 : Nat) (10000 : Int64)) ∈ kxW := List.mem_filter.mpr ⟨List.mem_append_right _ (List.mem_of_getElem? (i := 178) (by decide +kernel)), by decide +kernel⟩
theorem iw_179 : (Jvm.Cond.methodLink "ConsolidationDesk$Holdings" (74 : Nat) ({ cls := "java/lang/System", name := "arraycopy", desc := "(Ljava/lang/Object;ILjava/lang/Object;II)V" } : Jvm.MethodName)) ∈ kxW := List.mem_filter.mpr ⟨List.mem_append_right _ (List.mem_of_getElem? (i := 179) (by decide +kernel)), by decide +kernel⟩
theorem iw_180 : (Jvm.Cond.static ({ cls := "java/lang/System", name := "arraycopy", desc := "(Ljava/lang/Object;ILjava/lang/Object;II)V" } : Jvm.MethodName)) ∈ kxW := List.mem_filter.mpr ⟨List.mem_append_right _ (List.mem_of_getElem? (i := 180) (by decide +kernel)), by decide +kernel⟩
theorem iw_181 : (Jvm.Cond.native ({ cls := "java/lang/System", name := "arraycopy", desc := "(Ljava/lang/Object;ILjava/lang/Object;II)V" } : Jvm.MethodName)) ∈ kxW := List.mem_filter.mpr ⟨List.mem_append_right _ (List.mem_of_getElem? (i := 181) (by decide +kernel)), by decide +kernel⟩
def R_H : String := "ConsolidationDesk$Holdings"
def F_H : u_T := fun k => match k with
  | 0 => ("ConsolidationDesk$Holdings", "parts", "[I", true)
  | 1 => ("ConsolidationDesk$Holdings", "chainLengths", "[I", true)
  | 2 => ("ConsolidationDesk$Holdings", "underControl", "[Z", true)
  | 3 => ("ConsolidationDesk$Holdings", "shares", "[J", true)
  | 4 => ("ConsolidationDesk$Holdings", "chainShares", "[J", true)
  | _ => ("ConsolidationDesk$Holdings", "longerChainShares", "[J", true)
def t_H : Nat → FieldType := fun k => match k with
  | 0 => .array .int
  | 1 => .array .int
  | 2 => .array .boolean
  | 3 => .array .long
  | 4 => .array .long
  | _ => .array .long
theorem n_H : ∀ a, a < 6 → ∀ b, b < 6 → a ≠ b → (F_H a).2.1 ≠ (F_H b).2.1 := by decide +kernel
theorem t_H_ok : ∀ k, k < 6 → parseFieldDescriptor (F_H k).2.2.1 = some (t_H k) := by decide +kernel
theorem in_H : ∀ w ∈ u_ws R_H F_H 6, w ∈ kxW := by decide +kernel
def R_R : String := "ConsolidationDesk$Report"
def F_R : u_T := fun k => match k with
  | 0 => ("ConsolidationDesk$Report", "made", "Z", false)
  | 1 => ("ConsolidationDesk$Report", "companies", "I", false)
  | 2 => ("ConsolidationDesk$Report", "accounts", "I", false)
  | 3 => ("ConsolidationDesk$Report", "amounts", "[J", true)
  | 4 => ("ConsolidationDesk$Report", "stepAmounts", "[J", true)
  | 5 => ("ConsolidationDesk$Report", "groupAmounts", "[J", true)
  | 6 => ("ConsolidationDesk$Report", "outsidersCredits", "[J", true)
  | 7 => ("ConsolidationDesk$Report", "openPlaces", "[I", true)
  | _ => ("ConsolidationDesk$Report", "open", "I", false)
def t_R : Nat → FieldType := fun k => match k with
  | 0 => .boolean
  | 1 => .int
  | 2 => .int
  | 3 => .array .long
  | 4 => .array .long
  | 5 => .array .long
  | 6 => .array .long
  | 7 => .array .int
  | _ => .int
theorem n_R : ∀ a, a < 9 → ∀ b, b < 9 → a ≠ b → (F_R a).2.1 ≠ (F_R b).2.1 := by decide +kernel
theorem t_R_ok : ∀ k, k < 9 → parseFieldDescriptor (F_R k).2.2.1 = some (t_R k) := by decide +kernel
theorem in_R : ∀ w ∈ u_ws R_R F_R 9, w ∈ kxW := by decide +kernel
def R_D : String := "ConsolidationDesk"
def F_D : u_T := fun k => match k with
  | 0 => ("ConsolidationDesk", "companies", "I", false)
  | 1 => ("ConsolidationDesk", "currencyOf", "[I", true)
  | 2 => ("ConsolidationDesk", "accounts", "I", false)
  | 3 => ("ConsolidationDesk", "sortOf", "[I", true)
  | 4 => ("ConsolidationDesk", "reserve", "I", false)
  | 5 => ("ConsolidationDesk", "closingRates", "[I", true)
  | 6 => ("ConsolidationDesk", "averageRates", "[I", true)
  | 7 => ("ConsolidationDesk", "sums", "[J", true)
  | 8 => ("ConsolidationDesk", "historicAmounts", "[J", true)
  | 9 => ("ConsolidationDesk", "holdings", "LConsolidationDesk$Holdings;", true)
  | _ => ("ConsolidationDesk", "report", "LConsolidationDesk$Report;", true)
def t_D : Nat → FieldType := fun k => match k with
  | 0 => .int
  | 1 => .array .int
  | 2 => .int
  | 3 => .array .int
  | 4 => .int
  | 5 => .array .int
  | 6 => .array .int
  | 7 => .array .long
  | 8 => .array .long
  | 9 => .object "ConsolidationDesk$Holdings"
  | _ => .object "ConsolidationDesk$Report"
theorem n_D : ∀ a, a < 11 → ∀ b, b < 11 → a ≠ b → (F_D a).2.1 ≠ (F_D b).2.1 := by decide +kernel
theorem t_D_ok : ∀ k, k < 11 → parseFieldDescriptor (F_D k).2.2.1 = some (t_D k) := by decide +kernel
theorem in_D : ∀ w ∈ u_ws R_D F_D 11, w ∈ kxW := by decide +kernel
def R_M : String := "ConsolidationDeskModel"
def F_M : u_T := fun k => match k with
  | 0 => ("ConsolidationDeskModel", "thrown", "I", false)
  | 1 => ("ConsolidationDeskModel", "companies", "I", false)
  | 2 => ("ConsolidationDeskModel", "accounts", "I", false)
  | 3 => ("ConsolidationDeskModel", "currency", "[I", true)
  | 4 => ("ConsolidationDeskModel", "sort", "[I", true)
  | 5 => ("ConsolidationDeskModel", "closing", "[I", true)
  | 6 => ("ConsolidationDeskModel", "average", "[I", true)
  | 7 => ("ConsolidationDeskModel", "held", "[I", true)
  | 8 => ("ConsolidationDeskModel", "sum", "[J", true)
  | 9 => ("ConsolidationDeskModel", "told", "[J", true)
  | 10 => ("ConsolidationDeskModel", "done", "Z", false)
  | 11 => ("ConsolidationDeskModel", "left", "[J", true)
  | 12 => ("ConsolidationDeskModel", "step", "[J", true)
  | 13 => ("ConsolidationDeskModel", "outside", "[J", true)
  | 14 => ("ConsolidationDeskModel", "items", "I", false)
  | _ => ("ConsolidationDeskModel", "item", "[J", true)
def t_M : Nat → FieldType := fun k => match k with
  | 0 => .int
  | 1 => .int
  | 2 => .int
  | 3 => .array .int
  | 4 => .array .int
  | 5 => .array .int
  | 6 => .array .int
  | 7 => .array .int
  | 8 => .array .long
  | 9 => .array .long
  | 10 => .boolean
  | 11 => .array .long
  | 12 => .array .long
  | 13 => .array .long
  | 14 => .int
  | _ => .array .long
theorem n_M : ∀ a, a < 16 → ∀ b, b < 16 → a ≠ b → (F_M a).2.1 ≠ (F_M b).2.1 := by decide +kernel
theorem t_M_ok : ∀ k, k < 16 → parseFieldDescriptor (F_M k).2.2.1 = some (t_M k) := by decide +kernel
theorem in_M : ∀ w ∈ u_ws R_M F_M 16, w ∈ kxW := by decide +kernel
def R_A : String := "java/util/Arrays"
def R_L : String := "ConsolidationDeskLaw"
abbrev classes : List vw_C := [(R_H, F_H, 6), (R_R, F_R, 9), (R_D, F_D, 11), (R_M, F_M, 16)]
theorem sl_H_addLink : Cond.selects "ConsolidationDesk$Holdings" ⟨"ConsolidationDesk$Holdings", "addLink", "()V"⟩ ⟨"ConsolidationDesk$Holdings", "addLink", "()V"⟩ ∈ kxW := List.mem_filter.mpr ⟨List.mem_append_left _ (by decide +kernel), by decide +kernel⟩
theorem sl_H_findControl : Cond.selects "ConsolidationDesk$Holdings" ⟨"ConsolidationDesk$Holdings", "findControl", "()V"⟩ ⟨"ConsolidationDesk$Holdings", "findControl", "()V"⟩ ∈ kxW := List.mem_filter.mpr ⟨List.mem_append_left _ (by decide +kernel), by decide +kernel⟩
theorem sl_H_findShares : Cond.selects "ConsolidationDesk$Holdings" ⟨"ConsolidationDesk$Holdings", "findShares", "()V"⟩ ⟨"ConsolidationDesk$Holdings", "findShares", "()V"⟩ ∈ kxW := List.mem_filter.mpr ⟨List.mem_append_left _ (by decide +kernel), by decide +kernel⟩
theorem sl_H_hasTooLongChain : Cond.selects "ConsolidationDesk$Holdings" ⟨"ConsolidationDesk$Holdings", "hasTooLongChain", "()Z"⟩ ⟨"ConsolidationDesk$Holdings", "hasTooLongChain", "()Z"⟩ ∈ kxW := List.mem_filter.mpr ⟨List.mem_append_left _ (by decide +kernel), by decide +kernel⟩
theorem sl_H_heldInAll : Cond.selects "ConsolidationDesk$Holdings" ⟨"ConsolidationDesk$Holdings", "heldInAll", "(I)I"⟩ ⟨"ConsolidationDesk$Holdings", "heldInAll", "(I)I"⟩ ∈ kxW := List.mem_filter.mpr ⟨List.mem_append_left _ (by decide +kernel), by decide +kernel⟩
theorem sl_H_heldUnderControl : Cond.selects "ConsolidationDesk$Holdings" ⟨"ConsolidationDesk$Holdings", "heldUnderControl", "(I)I"⟩ ⟨"ConsolidationDesk$Holdings", "heldUnderControl", "(I)I"⟩ ∈ kxW := List.mem_filter.mpr ⟨List.mem_append_left _ (by decide +kernel), by decide +kernel⟩
theorem sl_H_lengthenChains : Cond.selects "ConsolidationDesk$Holdings" ⟨"ConsolidationDesk$Holdings", "lengthenChains", "(I)I"⟩ ⟨"ConsolidationDesk$Holdings", "lengthenChains", "(I)I"⟩ ∈ kxW := List.mem_filter.mpr ⟨List.mem_append_left _ (by decide +kernel), by decide +kernel⟩
end
section
/-! java/util/Arrays.fill([II)V -/
abbrev y_A_fillI : MethodName := ⟨"java/util/Arrays", "fill", "([II)V"⟩
theorem d_A_fillI_0 : decode prog_11_method_103_code 0 = .ok (.iconst 0, 1) := by decide +kernel
theorem d_A_fillI_1 : decode prog_11_method_103_code 1 = .ok (.istore_n 2, 1) := by decide +kernel
theorem d_A_fillI_2 : decode prog_11_method_103_code 2 = .ok (.aload_n 0, 1) := by decide +kernel
theorem d_A_fillI_3 : decode prog_11_method_103_code 3 = .ok (.arraylength, 1) := by decide +kernel
theorem d_A_fillI_4 : decode prog_11_method_103_code 4 = .ok (.istore_n 3, 1) := by decide +kernel
theorem d_A_fillI_5 : decode prog_11_method_103_code 5 = .ok (.iload_n 2, 1) := by decide +kernel
theorem d_A_fillI_6 : decode prog_11_method_103_code 6 = .ok (.iload_n 3, 1) := by decide +kernel
theorem d_A_fillI_7 : decode prog_11_method_103_code 7 = .ok (.if_icmp .ge 13, 3) := by decide +kernel
theorem d_A_fillI_10 : decode prog_11_method_103_code 10 = .ok (.aload_n 0, 1) := by decide +kernel
theorem d_A_fillI_11 : decode prog_11_method_103_code 11 = .ok (.iload_n 2, 1) := by decide +kernel
theorem d_A_fillI_12 : decode prog_11_method_103_code 12 = .ok (.iload_n 1, 1) := by decide +kernel
theorem d_A_fillI_13 : decode prog_11_method_103_code 13 = .ok (.iastore, 1) := by decide +kernel
theorem d_A_fillI_14 : decode prog_11_method_103_code 14 = .ok (.iinc 2 1, 3) := by decide +kernel
theorem d_A_fillI_17 : decode prog_11_method_103_code 17 = .ok (.goto (-12), 3) := by decide +kernel
theorem d_A_fillI_20 : decode prog_11_method_103_code 20 = .ok (.return_, 1) := by decide +kernel
abbrev WS_A_fillI (cI cL cZ : ClassId) (n_g0 : Nat) (a_g0 : Nat) (v_g0 : (Nat → Int32)) : va_W := [(a_g0, .inl (cI, n_g0, .inl v_g0))]
def wp_A_fillI (n_g0 : Nat) (p1 : Int32) (v_g0 : (Nat → Int32)) (post : (Nat → Int32) → Prop) : Prop := (∀ x4 : Int32, x4 = (Int32.ofNat n_g0) → (∃ (I5 : Int32 → (Nat → Int32) → Prop) (μ5 : Int32 → (Nat → Int32) → Nat), I5 0 v_g0 ∧ ∀ (l2_5 : Int32) (v_g0_5 : (Nat → Int32)), I5 l2_5 v_g0_5 → ((x4 ≤ l2_5 → post v_g0_5) ∧ (¬ x4 ≤ l2_5 → (vp_in l2_5 n_g0 ∧ I5 (l2_5 + 1) (upd v_g0_5 l2_5.toNatClampNeg p1) ∧ μ5 (l2_5 + 1) (upd v_g0_5 l2_5.toNatClampNeg p1) < μ5 l2_5 v_g0_5)))))
abbrev ws_A_fillI : List Cond := .code y_A_fillI prog_11_method_103_code 4 none :: kxW
abbrev rm_A_fillI : Room := { frames := 0, cells := 0, slots := 0, locals := 0 }
abbrev QC_A_fillI (dC : Nat → ClassId) (dI : Nat → Nat → Nat) (cI cL cZ : ClassId) (A : Nat → Prop) (n_g0 : Nat) (a_g0 : Nat) (v_g0 : (Nat → Int32)) (post : (Nat → Int32) → Prop) : Array Value → State → Outcome → State → Prop := va_Qv post (fun (u : (Nat → Int32)) t => kx_B (dC, dI) classes A (WS_A_fillI cI cL cZ n_g0 a_g0 u) t) A
set_option maxHeartbeats 4000000 in
set_option maxRecDepth 100000 in
theorem c_A_fillI (l : Launch) (dC : Nat → ClassId) (dI : Nat → Nat → Nat) (cI cL cZ : ClassId) (n_g0 : Nat) (a_g0 : Nat) (v_g0 : (Nat → Int32)) (sz : Nat) (p1 : Int32) {post : (Nat → Int32) → Prop} (hw : wp_A_fillI n_g0 p1 v_g0 post) : Met l y_A_fillI ws_A_fillI rm_A_fillI (kx_Pc (dC, dI) classes (kx_T cI cL cZ) (WS_A_fillI cI cL cZ n_g0 a_g0 v_g0) sz [.ref a_g0, .int p1]) (QC_A_fillI dC dI cI cL cZ (va_A (WS_A_fillI cI cL cZ n_g0 a_g0 v_g0) sz) n_g0 a_g0 v_g0 post) 0 0 (va_A (WS_A_fillI cI cL cZ n_g0 a_g0 v_g0) sz) := by
  refine Met.ofW (cc := prog_11_method_103_code) (maxL := 4) (ret := none) (by decide) rfl ?_
  intro p e s m args below meth c s₁ B hml hv
  obtain ⟨rfl, hsz, hP, hK, hD0⟩ := hv
  have hx := B.exec
  have hb := B.bytes
  have hr := B.returns
  have hts := atoms_spec (ws := ws_A_fillI) B.pre
  have hown : s.vm.findClass R_A = some m.cls := findClass_of_methodNamed B.named
  have hlocks := B.notSynchronized
  subst hsz
  have hD := hD0.self (sz := s.heap.size)
  generalize hAe : va_A (WS_A_fillI cI cL cZ n_g0 a_g0 v_g0) s.heap.size = A at hD ⊢
  have hA : ∀ q : Nat, s.heap.size ≤ q → A q := fun q h => by rw [← hAe]; exact Or.inr h
  have hS : va_S A s.heap s.heap [] := va_S.rf
  have hP : va_P (dC, dI) classes (WS_A_fillI cI cL cZ n_g0 a_g0 v_g0) s.heap := hP
  have hl := lv_entry ([.ref a_g0, .int p1]) (n := 4) (Nat.le_of_ble_eq_true rfl)
  rw [lg_entry_eq]
  generalize (lg_sl ([.ref a_g0, .int p1]) ++ List.replicate (4 - (lg_sl ([.ref a_g0, .int p1])).length) Slot.unset).toArray = ls at hl ⊢
  have hl : lv_has ls 4 [(0, .ref a_g0), (1, .int p1)] := hl
  unfold wp_A_fillI at hw
  refine (show ∀ (H : Heap) (locs : List Loc), va_P (dC, dI) classes (WS_A_fillI cI cL cZ n_g0 a_g0 v_g0) H → va_S A s.heap H locs → W p l e (headSpec ws_A_fillI rm_A_fillI).room s m ([.ref a_g0, .int p1] : List Value).toArray below meth c H locs 0 0 (MQ below (QC_A_fillI dC dI cI cL cZ A n_g0 a_g0 v_g0 post) ([.ref a_g0, .int p1] : List Value).toArray s 0 0 A) (F0 m 0 ls []) from ?_) _ _ hP hS
  intro H locs hP hS
  refine lv_iconst (v := 0) hx hb d_A_fillI_0 (by decide) ?_
  refine lv_istore_n (lv' := [(2, .int 0), (0, .ref a_g0), (1, .int p1)]) hx hb d_A_fillI_1 rfl hl (by decide) rfl (fun ls hl => ?_)
  refine lv_aload_n hx hb d_A_fillI_2 rfl (lv_at hl 1 rfl) ?_
  refine va_alen (v := (Int32.ofNat n_g0)) hx hb hK hP 0 0 rfl rfl rfl d_A_fillI_3 ?_
  refine lv_topi (fun x4 e4 => ?_)
  have hw := hw x4 e4
  refine lv_istore_n (lv' := [(3, .int x4), (2, .int 0), (0, .ref a_g0), (1, .int p1)]) hx hb d_A_fillI_4 rfl hl (by decide) rfl (fun ls hl => ?_)
  have hl := lv_sub hl [2, 3, 1, 0] rfl
  obtain ⟨I5, μ5, hi5, hs5⟩ := hw
  have L5 : ∀ (n : Nat) (l2_5 : Int32) (v_g0_5 : (Nat → Int32)) (H : Heap) (locs : List Loc) (ls : Array Slot), μ5 l2_5 v_g0_5 < n → I5 l2_5 v_g0_5 → lv_has ls 4 [(0, .ref a_g0), (1, .int p1), (2, .int l2_5), (3, .int x4)] → va_P (dC, dI) classes (WS_A_fillI cI cL cZ n_g0 a_g0 v_g0_5) H → va_D A (WS_A_fillI cI cL cZ n_g0 a_g0 v_g0_5) → va_S A s.heap H locs → W p l e (headSpec ws_A_fillI rm_A_fillI).room s m ([.ref a_g0, .int p1] : List Value).toArray below meth c H locs 0 0 (MQ below (QC_A_fillI dC dI cI cL cZ A n_g0 a_g0 v_g0 post) ([.ref a_g0, .int p1] : List Value).toArray s 0 0 A) (F0 m 5 ls []) := by
    intro n
    induction n with
    | zero => intro l2_5 v_g0_5 H locs ls hn; exact absurd hn (Nat.not_lt_zero _)
    | succ n ih5 =>
      intro l2_5 v_g0_5 H locs ls hn5 hI hl hP hD hS
      have hw := hs5 l2_5 v_g0_5 hI
      refine lv_iload_n hx hb d_A_fillI_5 rfl (lv_at hl 2 rfl) ?_
      refine lv_iload_n hx hb d_A_fillI_6 rfl (lv_at hl 3 rfl) ?_
      refine lv_icmp_ge (tgt := 20) hx hb d_A_fillI_7 rfl (fun hc => ?_) (fun hc => ?_)
      ·
        have hw := hw.1 hc
        exact W.vret hx hb hr (fun t ht hW => ⟨⟨v_g0_5, rfl, hw, ⟨by rw [ht]; exact hP, hD⟩⟩, hS.F ht⟩) hS.2.2 d_A_fillI_20
      ·
        have hw := hw.2 hc
        refine lv_aload_n hx hb d_A_fillI_10 rfl (lv_at hl 0 rfl) ?_
        refine lv_iload_n hx hb d_A_fillI_11 rfl (lv_at hl 2 rfl) ?_
        refine lv_iload_n hx hb d_A_fillI_12 rfl (lv_at hl 1 rfl) ?_
        obtain ⟨hi, hw⟩ := hw
        refine va_iast hx hb hK hP hD hS 0 0 rfl rfl hi d_A_fillI_13 (fun H locs hP hD hS => ?_)
        have hP : va_P (dC, dI) classes (WS_A_fillI cI cL cZ n_g0 a_g0 (upd v_g0_5 l2_5.toNatClampNeg p1)) H := hP
        have hD : va_D A (WS_A_fillI cI cL cZ n_g0 a_g0 (upd v_g0_5 l2_5.toNatClampNeg p1)) := hD
        refine lv_iinc (v := (l2_5 + 1)) (lv' := [(2, .int (l2_5 + 1)), (0, .ref a_g0), (1, .int p1), (3, .int x4)]) hx hb d_A_fillI_14 hl (k := 2) rfl rfl (by decide) rfl (fun ls hl => ?_)
        refine lv_goto (tgt := 5) hx hb d_A_fillI_17 rfl ?_
        have hl := lv_sub hl [1, 2, 0, 3] rfl
        exact ih5 (l2_5 + 1) (upd v_g0_5 l2_5.toNatClampNeg p1) _ _ _ (Nat.lt_of_lt_of_le hw.2 (Nat.le_of_lt_succ hn5)) hw.1 hl hP hD hS
  exact L5 _ 0 v_g0 _ _ _ (Nat.lt_succ_self _) hi5 hl hP hD hS
/-! java/util/Arrays.fill([JJ)V -/
abbrev y_A_fillJ : MethodName := ⟨"java/util/Arrays", "fill", "([JJ)V"⟩
theorem d_A_fillJ_0 : decode prog_11_method_101_code 0 = .ok (.iconst 0, 1) := by decide +kernel
theorem d_A_fillJ_1 : decode prog_11_method_101_code 1 = .ok (.istore_n 3, 1) := by decide +kernel
theorem d_A_fillJ_2 : decode prog_11_method_101_code 2 = .ok (.aload_n 0, 1) := by decide +kernel
theorem d_A_fillJ_3 : decode prog_11_method_101_code 3 = .ok (.arraylength, 1) := by decide +kernel
theorem d_A_fillJ_4 : decode prog_11_method_101_code 4 = .ok (.istore 4, 2) := by decide +kernel
theorem d_A_fillJ_6 : decode prog_11_method_101_code 6 = .ok (.iload_n 3, 1) := by decide +kernel
theorem d_A_fillJ_7 : decode prog_11_method_101_code 7 = .ok (.iload 4, 2) := by decide +kernel
theorem d_A_fillJ_9 : decode prog_11_method_101_code 9 = .ok (.if_icmp .ge 13, 3) := by decide +kernel
theorem d_A_fillJ_12 : decode prog_11_method_101_code 12 = .ok (.aload_n 0, 1) := by decide +kernel
theorem d_A_fillJ_13 : decode prog_11_method_101_code 13 = .ok (.iload_n 3, 1) := by decide +kernel
theorem d_A_fillJ_14 : decode prog_11_method_101_code 14 = .ok (.lload_n 1, 1) := by decide +kernel
theorem d_A_fillJ_15 : decode prog_11_method_101_code 15 = .ok (.lastore, 1) := by decide +kernel
theorem d_A_fillJ_16 : decode prog_11_method_101_code 16 = .ok (.iinc 3 1, 3) := by decide +kernel
theorem d_A_fillJ_19 : decode prog_11_method_101_code 19 = .ok (.goto (-13), 3) := by decide +kernel
theorem d_A_fillJ_22 : decode prog_11_method_101_code 22 = .ok (.return_, 1) := by decide +kernel
abbrev WS_A_fillJ (cI cL cZ : ClassId) (n_g0 : Nat) (a_g0 : Nat) (v_g0 : (Nat → Int64)) : va_W := [(a_g0, .inl (cL, n_g0, .inr (.inl v_g0)))]
def wp_A_fillJ (n_g0 : Nat) (p1 : Int64) (v_g0 : (Nat → Int64)) (post : (Nat → Int64) → Prop) : Prop := (∀ x4 : Int32, x4 = (Int32.ofNat n_g0) → (∃ (I6 : Int32 → (Nat → Int64) → Prop) (μ6 : Int32 → (Nat → Int64) → Nat), I6 0 v_g0 ∧ ∀ (l3_6 : Int32) (v_g0_6 : (Nat → Int64)), I6 l3_6 v_g0_6 → ((x4 ≤ l3_6 → post v_g0_6) ∧ (¬ x4 ≤ l3_6 → (vp_in l3_6 n_g0 ∧ I6 (l3_6 + 1) (vp_updL v_g0_6 l3_6.toNatClampNeg p1) ∧ μ6 (l3_6 + 1) (vp_updL v_g0_6 l3_6.toNatClampNeg p1) < μ6 l3_6 v_g0_6)))))
abbrev ws_A_fillJ : List Cond := .code y_A_fillJ prog_11_method_101_code 5 none :: kxW
abbrev rm_A_fillJ : Room := { frames := 0, cells := 0, slots := 0, locals := 0 }
abbrev QC_A_fillJ (dC : Nat → ClassId) (dI : Nat → Nat → Nat) (cI cL cZ : ClassId) (A : Nat → Prop) (n_g0 : Nat) (a_g0 : Nat) (v_g0 : (Nat → Int64)) (post : (Nat → Int64) → Prop) : Array Value → State → Outcome → State → Prop := va_Qv post (fun (u : (Nat → Int64)) t => kx_B (dC, dI) classes A (WS_A_fillJ cI cL cZ n_g0 a_g0 u) t) A
set_option maxHeartbeats 4000000 in
set_option maxRecDepth 100000 in
theorem c_A_fillJ (l : Launch) (dC : Nat → ClassId) (dI : Nat → Nat → Nat) (cI cL cZ : ClassId) (n_g0 : Nat) (a_g0 : Nat) (v_g0 : (Nat → Int64)) (sz : Nat) (p1 : Int64) {post : (Nat → Int64) → Prop} (hw : wp_A_fillJ n_g0 p1 v_g0 post) : Met l y_A_fillJ ws_A_fillJ rm_A_fillJ (kx_Pc (dC, dI) classes (kx_T cI cL cZ) (WS_A_fillJ cI cL cZ n_g0 a_g0 v_g0) sz [.ref a_g0, .long p1]) (QC_A_fillJ dC dI cI cL cZ (va_A (WS_A_fillJ cI cL cZ n_g0 a_g0 v_g0) sz) n_g0 a_g0 v_g0 post) 0 0 (va_A (WS_A_fillJ cI cL cZ n_g0 a_g0 v_g0) sz) := by
  refine Met.ofW (cc := prog_11_method_101_code) (maxL := 5) (ret := none) (by decide) rfl ?_
  intro p e s m args below meth c s₁ B hml hv
  obtain ⟨rfl, hsz, hP, hK, hD0⟩ := hv
  have hx := B.exec
  have hb := B.bytes
  have hr := B.returns
  have hts := atoms_spec (ws := ws_A_fillJ) B.pre
  have hown : s.vm.findClass R_A = some m.cls := findClass_of_methodNamed B.named
  have hlocks := B.notSynchronized
  subst hsz
  have hD := hD0.self (sz := s.heap.size)
  generalize hAe : va_A (WS_A_fillJ cI cL cZ n_g0 a_g0 v_g0) s.heap.size = A at hD ⊢
  have hA : ∀ q : Nat, s.heap.size ≤ q → A q := fun q h => by rw [← hAe]; exact Or.inr h
  have hS : va_S A s.heap s.heap [] := va_S.rf
  have hP : va_P (dC, dI) classes (WS_A_fillJ cI cL cZ n_g0 a_g0 v_g0) s.heap := hP
  have hl := lv_entry ([.ref a_g0, .long p1]) (n := 5) (Nat.le_of_ble_eq_true rfl)
  rw [lg_entry_eq]
  generalize (lg_sl ([.ref a_g0, .long p1]) ++ List.replicate (5 - (lg_sl ([.ref a_g0, .long p1])).length) Slot.unset).toArray = ls at hl ⊢
  have hl : lv_has ls 5 [(0, .ref a_g0), (1, .long p1)] := hl
  unfold wp_A_fillJ at hw
  refine (show ∀ (H : Heap) (locs : List Loc), va_P (dC, dI) classes (WS_A_fillJ cI cL cZ n_g0 a_g0 v_g0) H → va_S A s.heap H locs → W p l e (headSpec ws_A_fillJ rm_A_fillJ).room s m ([.ref a_g0, .long p1] : List Value).toArray below meth c H locs 0 0 (MQ below (QC_A_fillJ dC dI cI cL cZ A n_g0 a_g0 v_g0 post) ([.ref a_g0, .long p1] : List Value).toArray s 0 0 A) (F0 m 0 ls []) from ?_) _ _ hP hS
  intro H locs hP hS
  refine lv_iconst (v := 0) hx hb d_A_fillJ_0 (by decide) ?_
  refine lv_istore_n (lv' := [(3, .int 0), (0, .ref a_g0), (1, .long p1)]) hx hb d_A_fillJ_1 rfl hl (by decide) rfl (fun ls hl => ?_)
  refine lv_aload_n hx hb d_A_fillJ_2 rfl (lv_at hl 1 rfl) ?_
  refine va_alen (v := (Int32.ofNat n_g0)) hx hb hK hP 0 1 rfl rfl rfl d_A_fillJ_3 ?_
  refine lv_topi (fun x4 e4 => ?_)
  have hw := hw x4 e4
  refine lv_istore (lv' := [(4, .int x4), (3, .int 0), (0, .ref a_g0), (1, .long p1)]) hx hb d_A_fillJ_4 hl (by decide) rfl (fun ls hl => ?_)
  have hl := lv_sub hl [2, 3, 1, 0] rfl
  obtain ⟨I6, μ6, hi6, hs6⟩ := hw
  have L6 : ∀ (n : Nat) (l3_6 : Int32) (v_g0_6 : (Nat → Int64)) (H : Heap) (locs : List Loc) (ls : Array Slot), μ6 l3_6 v_g0_6 < n → I6 l3_6 v_g0_6 → lv_has ls 5 [(0, .ref a_g0), (1, .long p1), (3, .int l3_6), (4, .int x4)] → va_P (dC, dI) classes (WS_A_fillJ cI cL cZ n_g0 a_g0 v_g0_6) H → va_D A (WS_A_fillJ cI cL cZ n_g0 a_g0 v_g0_6) → va_S A s.heap H locs → W p l e (headSpec ws_A_fillJ rm_A_fillJ).room s m ([.ref a_g0, .long p1] : List Value).toArray below meth c H locs 0 0 (MQ below (QC_A_fillJ dC dI cI cL cZ A n_g0 a_g0 v_g0 post) ([.ref a_g0, .long p1] : List Value).toArray s 0 0 A) (F0 m 6 ls []) := by
    intro n
    induction n with
    | zero => intro l3_6 v_g0_6 H locs ls hn; exact absurd hn (Nat.not_lt_zero _)
    | succ n ih6 =>
      intro l3_6 v_g0_6 H locs ls hn6 hI hl hP hD hS
      have hw := hs6 l3_6 v_g0_6 hI
      refine lv_iload_n hx hb d_A_fillJ_6 rfl (lv_at hl 2 rfl) ?_
      refine lv_iload hx hb d_A_fillJ_7 (lv_at hl 3 rfl) ?_
      refine lv_icmp_ge (tgt := 22) hx hb d_A_fillJ_9 rfl (fun hc => ?_) (fun hc => ?_)
      ·
        have hw := hw.1 hc
        exact W.vret hx hb hr (fun t ht hW => ⟨⟨v_g0_6, rfl, hw, ⟨by rw [ht]; exact hP, hD⟩⟩, hS.F ht⟩) hS.2.2 d_A_fillJ_22
      ·
        have hw := hw.2 hc
        refine lv_aload_n hx hb d_A_fillJ_12 rfl (lv_at hl 0 rfl) ?_
        refine lv_iload_n hx hb d_A_fillJ_13 rfl (lv_at hl 2 rfl) ?_
        refine lv_lload_n hx hb d_A_fillJ_14 rfl (lv_at hl 1 rfl) ?_
        obtain ⟨hi, hw⟩ := hw
        refine va_last hx hb hK hP hD hS 0 1 rfl rfl hi d_A_fillJ_15 (fun H locs hP hD hS => ?_)
        have hP : va_P (dC, dI) classes (WS_A_fillJ cI cL cZ n_g0 a_g0 (vp_updL v_g0_6 l3_6.toNatClampNeg p1)) H := hP
        have hD : va_D A (WS_A_fillJ cI cL cZ n_g0 a_g0 (vp_updL v_g0_6 l3_6.toNatClampNeg p1)) := hD
        refine lv_iinc (v := (l3_6 + 1)) (lv' := [(3, .int (l3_6 + 1)), (0, .ref a_g0), (1, .long p1), (4, .int x4)]) hx hb d_A_fillJ_16 hl (k := 2) rfl rfl (by decide) rfl (fun ls hl => ?_)
        refine lv_goto (tgt := 6) hx hb d_A_fillJ_19 rfl ?_
        have hl := lv_sub hl [1, 2, 0, 3] rfl
        exact ih6 (l3_6 + 1) (vp_updL v_g0_6 l3_6.toNatClampNeg p1) _ _ _ (Nat.lt_of_lt_of_le hw.2 (Nat.le_of_lt_succ hn6)) hw.1 hl hP hD hS
  exact L6 _ 0 v_g0 _ _ _ (Nat.lt_succ_self _) hi6 hl hP hD hS
end
