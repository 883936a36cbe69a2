/-! a call of a method that may throw, under a handler that takes it -/
def kt_s1 : Cond := .isRef (.static "java/lang/Throwable" "UNASSIGNED_STACK" "[Ljava/lang/StackTraceElement;")
def kt_s2 : Cond := .isRef (.static "java/lang/Throwable" "SUPPRESSED_SENTINEL" "Ljava/util/List;")
def kt_s3 : Cond := .laysStatic "java/lang/Throwable" "UNASSIGNED_STACK" "[Ljava/lang/StackTraceElement;"
def kt_s4 : Cond := .laysStatic "java/lang/Throwable" "SUPPRESSED_SENTINEL" "Ljava/util/List;"
def kt_wb : Cond → Bool
  | .declares _ => true
  | .castable .. => true
  | .and .. => false
  | .methodRef .. => false
  | .interfaceMethod .. => false
  | .publicMethod _ => false
  | .unhidden .. => false
  | .fieldRef .. => false
  | .classRef .. => false
  | c => c.keeps
theorem kt_wb_ok {w : Cond} {s : State} (h : kt_wb w = true) : w.warmOk s := by
  cases w <;> first | trivial | exact h | (exact absurd h (by decide)) | (simp [kt_wb] at h)
theorem kt_split : ∀ w ∈ kt_A, w.onTables = true ∨ (w = kt_s1 ∨ w = kt_s2) ∨ w = kt_s3 ∨ w = kt_s4 := by decide +kernel
theorem kt_keep : ∀ w ∈ kt_A, kt_wb w = true := by decide +kernel
theorem kt_ls {C n d : String} {s U : State} {v : Array Value} (hvm : U.vm = s.vm) (hh : ∀ (a : Nat) (cell : Cell), s.heap[a]? = some cell → U.heap[a]? = some cell) (h : (Cond.laysStatic C n d).before v s = true) : (Cond.laysStatic C n d).before v U = true := by
  have e : U.fieldFound? C n d = s.fieldFound? C n d := by simp only [State.fieldFound?, hvm]
  obtain ⟨c, k, i, f, a, cell, h1, h2, h3, h4, h5, h6, h7, h8, h9⟩ := Cond.laysStatic_spec h
  have h10 := hh a cell h5
  simp only [Cond.before, Cond.holds, Cond.value, hvm, e, h1, h2, h4, Option.bind_some, h10, h5] at h ⊢
  exact h
theorem kt_st {C n d : String} {s U : State} {v : Array Value} (hvm : U.vm = s.vm) (hh : ∀ (a : Nat) (cell : Cell), s.heap[a]? = some cell → U.heap[a]? = some cell) (h : (Cond.isRef (.static C n d)).before v s = true) : (Cond.isRef (.static C n d)).before v U = true := by
  have ev : ∀ x, (Term.static C n d).eval v s none [] s = some x → (Term.static C n d).eval v U none [] U = some x := by
    intro x hx
    have e : U.fieldNamed? C n d true = s.fieldNamed? C n d true := by simp only [State.fieldNamed?, State.fieldFound?, hvm]
    simp only [Term.eval, e, Option.bind_eq_bind, Option.bind_eq_some_iff] at hx ⊢
    obtain ⟨⟨c0, k, sl⟩, h1, a, h2, cell, h3, h4⟩ := hx
    exact ⟨⟨c0, k, sl⟩, h1, a, h2, cell, hh a cell h3, h4⟩
  cases hx : (Term.static C n d).eval v s none [] s with
  | none => simp [Cond.before, Cond.holds, Cond.value, hx] at h
  | some x =>
    have e2 := ev x hx
    simp only [Cond.before, Cond.holds, Cond.value, hx] at h
    simp only [Cond.before, Cond.holds, Cond.value, e2]
    exact h
theorem kt_N.moved {s U : State} (h : kt_N s) (hW : s.WarmedH U.vm) (hh : ∀ q : Nat, q < s.heap.size → U.heap[q]? = s.heap[q]?) : kt_N U := fun w hw v => by
  have h1 : w.before v (s.setVm U.vm) = true := Cond.before_warmed hW w (kt_wb_ok (kt_keep w hw)) (h w hw v)
  have hh' : ∀ (a : Nat) (cell : Cell), (s.setVm U.vm).heap[a]? = some cell → U.heap[a]? = some cell := fun a cell hc => by rw [hh a (Array.getElem?_eq_some_iff.mp hc).1]; exact hc
  rcases kt_split w hw with hc | (rfl | rfl) | rfl | rfl
  · exact va_tabs (u := s.setVm U.vm) hc rfl h1
  · exact kt_st (s := s.setVm U.vm) rfl hh' h1
  · exact kt_st (s := s.setVm U.vm) rfl hh' h1
  · exact kt_ls (s := s.setVm U.vm) rfl hh' h1
  · exact kt_ls (s := s.setVm U.vm) rfl hh' h1
theorem kt_N.called {U : State} {g : JFrame} {mk : MethodId} {a : Array Value} (h : kt_N U) : kt_N (U.calling g mk a) := fun w hw v => by
  rcases kt_split w hw with hc | (rfl | rfl) | rfl | rfl
  · exact va_tabs (u := U) hc rfl (h w hw v)
  · exact kt_st (s := U) rfl (fun _ _ hc => hc) (h _ hw v)
  · exact kt_st (s := U) rfl (fun _ _ hc => hc) (h _ hw v)
  · exact kt_ls (s := U) rfl (fun _ _ hc => hc) (h _ hw v)
  · exact kt_ls (s := U) rfl (fun _ _ hc => hc) (h _ hw v)
theorem kt_tab {l : List ExceptionTableEntry} {a b c d : Nat} (h : l.map (fun h => (h.startPc, h.endPc, h.handlerPc, h.catchType)) = [(a, b, c, d)]) : l = [⟨a, b, c, d⟩] := by
  match l, h with
  | [x], h =>
    obtain ⟨x1, x2, x3, x4⟩ := x
    simp only [List.map_cons, List.map_nil, List.cons.injEq, Prod.mk.injEq, and_true] at h
    obtain ⟨rfl, rfl, rfl, rfl⟩ := h
    rfl
set_option maxHeartbeats 2000000 in
theorem kt_call {p : Program} {l : Launch} {e : Env} {R : Room} {s : State} {m : MethodId} {args : Array Value} {below : List Frame} {meth : Method} {c : Code} {H : Heap} {locs : List Loc} {cells slots : Nat} {Q : State → Prop} {cc : ByteArray} {pc : Nat} {ls : Array Slot} {rest : List Value}
    {own C : String} {index : Nat} {y : MethodName} {bytes : ByteArray} {maxL : Nat} {ws : List Cond} {rm : Room} {Pc : Array Value → State → Prop} {post : Int64 → Unit → Prop} {thr : Prop} {b : Addr} {As : List Value} {x : ExceptionTableEntry}
    (hexec : p.tables.exec = Jvm.exec) (hb : c.code = cc) (hml : ls.size = c.maxLocals) (hown : s.vm.findClass own = some m.cls) (hM : kt_Met l y ws rm Pc post thr) (hblind : FrameBlind Pc) (hrc : rm.cells = 1) (hrs : rm.slots = 6) (hfr : rm.frames + 1 ≤ R.frames) (hlo : 8 + (maxL + 11) + rm.locals ≤ R.locals)
    (hws : ∀ w ∈ ws, ∀ (a' : Array Value) (U : State), s.WarmedH U.vm → w.before a' U = true) (hcw : Cond.code y bytes maxL (some .long) ∈ ws)
    (hlink : (Cond.methodLink own index y).before args s = true) (hinst : (Cond.instanceMethod y).before args s = true) (hsel : (Cond.selects C y y).before args s = true) (hini : (Cond.initialized y.cls).before args s = true) (hy : y.cls ≠ "java/lang/invoke/MethodHandle" ∧ y.cls ≠ "java/lang/invoke/VarHandle") (hn : (parseMethodDescriptor y.desc).map (fun d => d.parameters.length) = some As.length)
    (hrecv : ∃ cellB : Cell, H[b]? = some cellB ∧ cellB.vm.isStatics = false ∧ s.vm.findClass C = some cellB.cls) (hPc : ∀ U : State, U.heap = H → s.WarmedH U.vm → Pc (Value.ref b :: As).toArray U)
    (hW : (rest.map fun v => v.category).sum ≤ 8) (hdg : decode cc pc = .ok (.invokevirtual index, 3)) (hc : cells + 1 ≤ R.cells) (hs : slots + 6 ≤ R.slots)
    (htab : c.exceptionTable.toList = [x]) (hcov : covers x pc = true) (h0 : x.catchType ≠ 0) (hcat : (Cond.classLink own x.catchType kt_X).before args s = true)
    (kk1 : ∀ r : Int64, post r () → W p l e R s m args below meth c H locs (cells + 1) (slots + 6) Q (F0 m (pc + 3) ls (.long r :: rest)))
    (kk2 : thr → ∀ (a : Nat) (H1 : Heap), H.size ≤ H1.size → (∀ q : Nat, q < H.size → H1[q]? = H[q]?) → W p l e R s m args below meth c H1 locs (cells + 1) (slots + 6) Q (F0 m x.handlerPc ls [.ref a])) : W p l e R s m args below meth c H locs cells slots Q (F0 m pc ls (As.reverse ++ .ref b :: rest)) := by
  intro T hT X
  obtain ⟨cellB, hcell, hobj, hcls⟩ := hrecv
  have hpl : e.platform.magicAccessors = ({} : Platform).magicAccessors := by rw [X.admits.platform]
  have hdg' : decode c.code pc = .ok (.invokevirtual index, 3) := by rw [hb]; exact hdg
  have hcode : (Cond.code y bytes maxL (some .long)).before args s = true := hws _ hcw _ _ (State.WarmedH.refl s)
  obtain ⟨mk, methM, hnamed, hmethM, hstM, habM⟩ := Cond.instanceMethod_spec hinst
  obtain ⟨methM', cM, hmethM', -, -, -, -, -, -, hsigM⟩ := Cond.code_spec hnamed hcode
  cases hmethM.symm.trans hmethM'
  obtain ⟨c2, r2, m2, q1, q2, q3, q4, kP, hkP, hkPi⟩ := Cond.selects_spec hsel
  cases hcls.symm.trans q1
  cases (State.methodFound?_of_named hnamed hy).symm.trans q2
  cases hnamed.symm.trans q3
  have hselP : selectMethod e.platform s.vm cellB.cls mk = .method mk := by rw [Launch.admits_selectMethod X.admits]; exact q4
  have hlen : As.length = methM.sig.parameters.length := by
    rw [hsigM] at hn
    exact (Option.some.inj hn).symm
  obtain ⟨vm₁, X₁, hstep₁⟩ := X.invokevirtual hexec hown hlink hnamed hmethM hstM hkP hkPi hy (a := b) (cell := cellB) (by rw [hT]; exact hcell)
    (fun z h => by rw [h] at hobj; cases hobj) hselP hmethM habM hkP hkPi (g := F0 m pc ls (As.reverse ++ .ref b :: rest)) rfl (argsL := As) (rest := rest) hlen rfl hdg'
  have hT1 : (T.setVm vm₁).heap = H := hT
  generalize T.setVm vm₁ = T₁ at X₁ hstep₁ hT1
  have hn1 : T₁.methodNamed? y = some mk := X₁.named hnamed
  have h : At T₁ (F0 m pc ls rest).method c below := X₁.here
  obtain ⟨kY, hkY, -⟩ := className_of_methodNamed hn1
  have hini1 : (Cond.initialized y.cls).before #[] T₁ = true := word_at X₁.warmed (Or.inl (by first | rfl | simp [Cond.onTables, Cond.keeps, Cond.steady])) hini
  have hinitY : kY.init = .initialized := Cond.initialized_spec (findClass_of_methodNamed hn1) hkY hini1
  obtain ⟨methY, cY, hmY, hcY, -, hlY, -, -, -, -⟩ := Cond.code_spec hn1 (hws _ hcw #[] _ X₁.warmed)
  have happ : (headSpec ws rm).appliesLoose y e.platform (T₁.calling (F0 m pc ls rest) mk (Value.ref b :: As).toArray) = true :=
    Spec.appliesLoose_calling (g := F0 m pc ls rest) h hdg' hn1 hkY hinitY
      (X₁.room_calling (g := F0 m pc ls rest) (R' := rm) hml hmY hcY hfr (by rw [hlY]; show 2 * 0 + (rest.map fun v => v.category).sum + _ + _ ≤ _; omega) (by rw [hrc]; exact hc) (by rw [hrs]; exact hs)) (atoms_intro fun w hw => hws w hw _ _ X₁.warmed)
  obtain ⟨mid, hmid⟩ := h.above
  have hfr' : (T₁.setTop (F0 m pc ls rest)).frames = (.java (F0 m pc ls rest) :: mid) ++ below := by rw [State.frames_setTop' (F0 m pc ls rest) h.top, hmid]; rfl
  obtain ⟨o, s₂, hsteps, -, hend, hq⟩ := Steps.callFree hM p X₁.admits X₁.cas X₁.clock (acts := []) hfr' happ (hblind _ T₁ (F0 m pc ls rest) mk (hPc T₁ hT1 X₁.warmed)) trivial
  rw [State.frames_setTop' (F0 m pc ls rest) h.top, X₁.tail] at hend
  obtain ⟨hQ, hW₂, hsame⟩ := hq
  rcases hQ with ⟨r, rfl, hp, hh⟩ | ⟨x', ce, rfl, ht, hce, hcls', hself, hvm, hnew⟩
  · obtain ⟨T', X', -, -, hts⟩ := X₁.outOf (g := F0 m pc ls rest) rfl hdg' hend hW₂ hsame
    have hh' : T'.heap = H := by
      have e1 : s₂.heap = T'.heap := by rw [hts]; simp [State.setTop, State.modifyTopJava, State.setFrames]
      rw [← e1, hh]; exact hT1
    obtain ⟨t2, a1, b1⟩ := kk1 r hp T' hh' (by simpa using X')
    refine ⟨t2, hstep₁ _ (fun acts => ?_), b1⟩
    rw [doInvoke_state]
    refine hsteps.trans ?_
    rw [hts]
    exact a1
  · obtain ⟨T', X', hW', hB, hts⟩ := X₁.outOfThrown (g := F0 m pc ls rest) rfl hend hW₂ hsame
    have e1 : s₂.heap = T'.heap := by rw [hts]; exact Stand.throwing_heap _ _ _
    obtain ⟨cc', hfcc, hcl⟩ := Cond.classLink_spec hown hcat e.platform hpl
    obtain ⟨hg₁, hwarm₁, hready₁⟩ := State.classEntry (e := e) X'.warmed hcl
    have hsz : (T'.vm.noted m.cls x.catchType (.cls cc')).classes.size ≤ T'.vm.classes.size := by simp [Vm.noted]
    generalize T'.vm.noted m.cls x.catchType (.cls cc') = vm₂ at hg₁ hwarm₁ hready₁ hsz
    have X'' := X'.noted hwarm₁
    have hcE : s.vm.findClass kt_X = some ce.cls := by
      have e2 : T₁.vm.findClass kt_X = some ce.cls := hcls'
      rwa [X₁.warmed.alike.findClass] at e2
    cases hfcc.symm.trans hcE
    have hf2 : vm₂.findClass kt_X = some ce.cls := by rw [hwarm₁.alike.findClass]; exact hcE
    have hk2 := Vm.classAt_of_findClass hf2
    have hsize : H.size ≤ T'.heap.size := by
      have q2 : T₁.heap.size ≤ s₂.heap.size := hsame.2.1
      rw [hT1, e1] at q2
      exact q2
    have hkeep : ∀ q : Nat, q < H.size → T'.heap[q]? = H[q]? := by
      intro q hq
      obtain ⟨c0, e4⟩ : ∃ c0, T₁.heap[q]? = some c0 := ⟨_, Array.getElem?_eq_getElem (by rw [hT1]; exact hq)⟩
      obtain ⟨c', f1, f2, f3, f4⟩ := hsame.2.2.2.2.2 q c0 e4
      have e5 : c' = c0 := by
        rw [f2]
        have : c'.slots = c0.slots := Array.ext_getElem? (fun i => f4 i (by simp))
        rw [this]
      have f1' : s₂.heap[q]? = some c' := f1
      rw [← e1, f1', e5, ← hT1, e4]
    obtain ⟨t2, a1, b1⟩ := kk2 ht x' T'.heap hsize hkeep (T'.setVm vm₂) rfl (by simpa using X'')
    refine ⟨t2, hstep₁ _ (fun acts => ?_), b1⟩
    rw [doInvoke_state]
    refine hsteps.trans ?_
    rw [hts]
    refine ct_caught (g := F0 m pc ls rest) X'.here (pc := x.handlerPc) (vm' := vm₂) (fun Q E d acts => ?_) a1
    rw [Jvm.W.findHandler_eq (meth := meth) (code := c) (by rw [Stand.throwing_vm]; exact X'.method') X'.code, htab]
    refine ct_go hcov h0 (by rw [Stand.throwing_vm]; exact hg₁) (by rw [Stand.throwing_vm]; exact hsz) (cell := ce) (by rw [Stand.throwing_heap, ← e1]; exact hce) (fun k hk => by rw [hvm] at hk; cases hk) hk2 hk2 ?_
    show Vm.assignableAux _ (255 + 1) _ _ = true
    rw [Vm.assignableAux]
    simp
