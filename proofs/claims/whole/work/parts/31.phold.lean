/-! pure: what Holdings' methods compute, out of wp_H_.. -/
theorem q_ex {n k : Nat} (hn : n < 2 ^ 31) (hk : k ≤ n) (h : nI n ≤ nI k) : k = n := by
  have := (nI_leI hn (by omega)).mp h; omega
theorem q_in {n k : Nat} (hn : n < 2 ^ 31) (hk : k ≤ n) (h : ¬ nI n ≤ nI k) : k < n := by
  have := mt (nI_leI (a := n) (b := k) hn (by omega)).mpr h; omega
theorem q_exl {n k : Nat} (hn : n + 1 < 2 ^ 31) (hk : k ≤ n + 1) (h : nI n < nI k) : k = n + 1 := by
  have := (nI_ltI (a := n) (b := k) (by omega) (by omega)).mp h; omega
theorem q_inl {n k : Nat} (hn : n + 1 < 2 ^ 31) (hk : k ≤ n + 1) (h : ¬ nI n < nI k) : k ≤ n := by
  have := mt (nI_ltI (a := n) (b := k) (by omega) (by omega)).mpr h; omega
theorem q_mu {n k : Nat} (h : k < n) (hn : n < 2 ^ 31) : n - (nI (k + 1)).toNatClampNeg < n - (nI k).toNatClampNeg := by
  rw [nI_clamp (by omega), nI_clamp (by omega)]; omega
/-- the table of parts: numbers up to the whole -/
def pOK (P : Nat → Int32) : Prop := ∀ i, i < 144 → ∃ n : Nat, n ≤ 10000 ∧ P i = nI n
def hOf (P : Nat → Int32) (o d : Nat) : Nat := (P (o * 12 + d)).toNatClampNeg
theorem hOf_eq {P : Nat → Int32} (h : pOK P) {o d : Nat} (ho : o < 12) (hd : d < 12) : P (o * 12 + d) = nI (hOf P o d) ∧ hOf P o d ≤ 10000 := by
  obtain ⟨n, h1, h2⟩ := h (o * 12 + d) (by omega)
  unfold hOf
  rw [h2, nI_clamp (by omega)]
  exact ⟨rfl, h1⟩
theorem sp_heldInAll {P : Nat → Int32} (hP : pOK P) {d : Nat} (hd : d < 12) {post : Int32 → Unit → Prop} (h : post (nI (mS (fun o => hOf P o d) 12)) ()) : wp_H_heldInAll (nI d) P post := by
  unfold wp_H_heldInAll
  refine ⟨fun t i => ∃ k : Nat, k ≤ 12 ∧ t = nI (mS (fun o => hOf P o d) k) ∧ i = nI k, fun _ i => 12 - i.toNatClampNeg, ⟨0, by omega, rfl, rfl⟩, ?_⟩
  rintro t i ⟨k, hk, rfl, rfl⟩
  refine ⟨fun hc => ?_, fun hc => ?_⟩
  · have := q_ex (n := 12) (by decide) hk hc
    subst this
    exact h
  · have hk' := q_in (n := 12) (by decide) hk hc
    rw [ix12]
    refine ⟨vp_in_nI (by omega) (by decide), fun x hx => ?_⟩
    rw [nI_clamp (by omega), (hOf_eq hP hk' hd).1, nI_add] at hx
    subst hx
    rw [nI_1]
    exact ⟨⟨k + 1, by omega, rfl, rfl⟩, q_mu hk' (by decide)⟩
theorem sp_fillI {n : Nat} (hn : n < 2 ^ 31) {x : Int32} {f : Nat → Int32} {post : (Nat → Int32) → Prop} (h : ∀ g : Nat → Int32, (∀ i, i < n → g i = x) → (∀ i, n ≤ i → g i = f i) → post g) : wp_A_fillI n x f post := by
  unfold wp_A_fillI
  intro x4 hx
  subst hx
  refine ⟨fun i g => ∃ k : Nat, k ≤ n ∧ i = nI k ∧ (∀ j, j < k → g j = x) ∧ ∀ j, k ≤ j → g j = f j, fun i _ => n - i.toNatClampNeg, ⟨0, by omega, rfl, fun j hj => absurd hj (Nat.not_lt_zero _), fun _ _ => rfl⟩, ?_⟩
  rintro i g ⟨k, hk, rfl, h1, h2⟩
  refine ⟨fun hc => ?_, fun hc => ?_⟩
  · have := q_ex hn hk hc
    subst this
    exact h g h1 h2
  · have hk' := q_in hn hk hc
    rw [nI_1, nI_clamp (by omega)]
    refine ⟨vp_in_nI hk' hn, ⟨k + 1, by omega, rfl, fun j hj => ?_, fun j hj => ?_⟩, q_mu hk' hn⟩
    · by_cases e : j = k
      · subst e; exact pk_us
      · rw [pk_un e]; exact h1 j (by omega)
    · rw [pk_un (by omega)]; exact h2 j (by omega)
theorem sp_fillJ {n : Nat} (hn : n < 2 ^ 31) {x : Int64} {f : Nat → Int64} {post : (Nat → Int64) → Prop} (h : ∀ g : Nat → Int64, (∀ i, i < n → g i = x) → (∀ i, n ≤ i → g i = f i) → post g) : wp_A_fillJ n x f post := by
  unfold wp_A_fillJ
  intro x4 hx
  subst hx
  refine ⟨fun i g => ∃ k : Nat, k ≤ n ∧ i = nI k ∧ (∀ j, j < k → g j = x) ∧ ∀ j, k ≤ j → g j = f j, fun i _ => n - i.toNatClampNeg, ⟨0, by omega, rfl, fun j hj => absurd hj (Nat.not_lt_zero _), fun _ _ => rfl⟩, ?_⟩
  rintro i g ⟨k, hk, rfl, h1, h2⟩
  refine ⟨fun hc => ?_, fun hc => ?_⟩
  · have := q_ex hn hk hc
    subst this
    exact h g h1 h2
  · have hk' := q_in hn hk hc
    rw [nI_1, nI_clamp (by omega)]
    refine ⟨vp_in_nI hk' hn, ⟨k + 1, by omega, rfl, fun j hj => ?_, fun j hj => ?_⟩, q_mu hk' hn⟩
    · by_cases e : j = k
      · subst e; exact pk_uLs
      · rw [pk_uLn e]; exact h1 j (by omega)
    · rw [pk_uLn (by omega)]; exact h2 j (by omega)
/-- in a round that lengthens chains of k links, behind the owners below i, and of the owner i the owned below j -/
def lPr (h : Nat → Nat → Nat) (k i j : Nat) (cl : Nat → Nat) : Prop := ∀ o d, o < 12 → d < 12 → (o < i ∨ (o = i ∧ d < j)) → mE h k o → 0 < h o d → k + 1 ≤ cl d
def lInv (h : Nat → Nat → Nat) (k B i j lg : Nat) (CL : Nat → Int32) : Prop := ∃ cl : Nat → Nat, (∀ v, v < 12 → CL v = nI (cl v) ∧ cl v ≤ lg ∧ mE h (cl v) v ∧ (mE h k v → k ≤ cl v)) ∧ (∃ v, v < 12 ∧ mE h lg v) ∧ lg ≤ B + (12 * i + j) ∧ lPr h k i j cl
theorem lPr_step {h : Nat → Nat → Nat} {k i j : Nat} {cl cl' : Nat → Nat} (hpr : lPr h k i j cl) (hm : ∀ v, v < 12 → cl v ≤ cl' v) (hn : mE h k i → 0 < h i j → k + 1 ≤ cl' j) : lPr h k i (j + 1) cl' := by
  intro o d ho hd hq hk hp
  by_cases e : o = i ∧ d = j
  · obtain ⟨rfl, rfl⟩ := e
    exact hn hk hp
  · exact Nat.le_trans (hpr o d ho hd (by omega) hk hp) (hm d hd)
set_option maxHeartbeats 1000000 in
theorem sp_lengthen {P : Nat → Int32} (hP : pOK P) {k B lg : Nat} {CL : Nat → Int32} (hB : B + 144 < 2 ^ 30) (h0 : lInv (hOf P) k B 0 0 lg CL) {post : Int32 → (Nat → Int32) → Prop} (hpost : ∀ lg' CL', lInv (hOf P) k B 12 0 lg' CL' → post (nI lg') CL') : wp_H_lengthenChains (nI lg) P CL post := by
  unfold wp_H_lengthenChains
  refine ⟨fun t i C => ∃ i' lg' : Nat, i' ≤ 12 ∧ i = nI i' ∧ t = nI lg' ∧ lInv (hOf P) k B i' 0 lg' C, fun _ i _ => 12 - i.toNatClampNeg, ⟨0, lg, by omega, rfl, rfl, h0⟩, ?_⟩
  rintro t i C ⟨i', lg', hi, rfl, rfl, hI⟩
  refine ⟨fun hc => ?_, fun hc => ?_⟩
  · have := q_ex (n := 12) (by decide) hi hc
    subst this
    exact hpost _ _ hI
  · have hi' := q_in (n := 12) (by decide) hi hc
    refine ⟨fun t j C => ∃ j' lg' : Nat, j' ≤ 12 ∧ j = nI j' ∧ t = nI lg' ∧ lInv (hOf P) k B i' j' lg' C, fun _ j _ => 12 - j.toNatClampNeg, ⟨0, lg', by omega, rfl, rfl, hI⟩, ?_⟩
    clear hI
    rintro t j C ⟨j', lg2, hj, rfl, rfl, hI⟩
    refine ⟨fun hc => ?_, fun hc => ?_⟩
    · have := q_ex (n := 12) (by decide) hj hc
      subst this
      rw [nI_1]
      obtain ⟨cl, h1, h2, h3, h4⟩ := hI
      exact ⟨⟨i' + 1, lg2, by omega, rfl, rfl, cl, h1, h2, by omega, fun o d ho hd hq => h4 o d ho hd (by omega)⟩, q_mu hi' (by decide)⟩
    · have hj' := q_in (n := 12) (by decide) hj hc
      obtain ⟨cl, hcl, hne, hb, hpr⟩ := hI
      obtain ⟨hPe, hPl⟩ := hOf_eq hP hi' hj'
      obtain ⟨c1, c2, c3, c4⟩ := hcl i' hi'
      obtain ⟨d1, d2, d3, d4⟩ := hcl j' hj'
      refine ⟨vp_in_nI hi' (by decide), fun x hx => ?_⟩
      rw [nI_clamp (by omega), c1, nI_1] at hx
      subst hx
      rw [ix12, nI_clamp (n := i' * 12 + j') (by omega), nI_clamp (n := j') (by omega), hPe, d1, nI_1]
      refine ⟨vp_in_nI (by omega) (by decide), fun hz => ?_, fun hz => ⟨vp_in_nI hj' (by decide), fun hy => ?_, fun hy => ⟨vp_in_nI hj' (by decide), fun y hy2 => ?_⟩⟩⟩
      · have hz : hOf P i' j' = 0 := by
          have := (nI_leI (a := hOf P i' j') (b := 0) (by omega) (by omega)).mp hz; omega
        exact ⟨⟨j' + 1, lg2, by omega, rfl, rfl, cl, hcl, hne, by omega, lPr_step hpr (fun _ _ => Nat.le_refl _) (fun _ hp => by omega)⟩, q_mu hj' (by decide)⟩
      · have hy := (nI_leI (a := cl i' + 1) (b := cl j') (by omega) (by omega)).mp hy
        exact ⟨⟨j' + 1, lg2, by omega, rfl, rfl, cl, hcl, hne, by omega, lPr_step hpr (fun _ _ => Nat.le_refl _) (fun hk _ => by have := c4 hk; omega)⟩, q_mu hj' (by decide)⟩
      · have hy := mt (nI_leI (a := cl i' + 1) (b := cl j') (by omega) (by omega)).mpr hy
        have hz : 0 < hOf P i' j' := by
          have := mt (nI_leI (a := hOf P i' j') (b := 0) (by omega) (by omega)).mpr hz; omega
        have hE : mE (hOf P) (cl i' + 1) j' := ⟨i', hi', c3, hz⟩
        have hy3 : y = nI (max lg2 (cl i' + 1)) := by
          rw [hy2]
          by_cases w : nI lg2 < nI (cl i' + 1)
          · rw [if_pos w]
            have := (nI_ltI (a := lg2) (b := cl i' + 1) (by omega) (by omega)).mp w
            rw [Nat.max_eq_right (by omega)]
          · rw [if_neg w]
            have := mt (nI_ltI (a := lg2) (b := cl i' + 1) (by omega) (by omega)).mpr w
            rw [Nat.max_eq_left (by omega)]
        refine ⟨⟨j' + 1, max lg2 (cl i' + 1), by omega, rfl, hy3, fun v => if v = j' then cl i' + 1 else cl v, fun v hv => ?_, ?_, by omega, lPr_step hpr (fun v _ => ?_) (fun hk _ => ?_)⟩, q_mu hj' (by decide)⟩
        · by_cases e : v = j'
          · subst e
            simp only [if_true]
            exact ⟨pk_us, by omega, hE, fun q => by have := d4 q; omega⟩
          · simp only [e, if_false]
            rw [pk_un e]
            obtain ⟨a1, a2, a3, a4⟩ := hcl v hv
            exact ⟨a1, by omega, a3, a4⟩
        · by_cases w : lg2 ≤ cl i' + 1
          · rw [Nat.max_eq_right w]; exact ⟨j', hj', hE⟩
          · rw [Nat.max_eq_left (by omega)]; exact hne
        · by_cases e : v = j'
          · subst e; simp only [if_true]; omega
          · simp only [e, if_false]; exact Nat.le_refl _
        · simp only [if_true]
          have := c4 hk; omega
theorem sp_tooLong {P : Nat → Int32} (hP : pOK P) {CL : Nat → Int32} {post : Int32 → (Nat → Int32) → Prop} (h0 : ∀ C, mOK (hOf P) → post 0 C) (h1 : ∀ C, ¬ mOK (hOf P) → post 1 C) : wp_H_hasTooLongChain P CL post := by
  unfold wp_H_hasTooLongChain
  refine sp_fillI (by decide) (fun g hg _ => ?_)
  refine ⟨fun t i C => ∃ i' lg : Nat, i' ≤ 5 ∧ i = nI i' ∧ t = nI lg ∧ lInv (hOf P) i' (144 * i') 0 0 lg C, fun _ i _ => 5 - i.toNatClampNeg, ⟨0, 0, by omega, rfl, rfl, fun _ => 0, fun v hv => ⟨hg v hv, Nat.le_refl _, trivial, fun _ => Nat.le_refl _⟩, ⟨0, by omega, trivial⟩, by omega, fun o d ho hd hq => by omega⟩, ?_⟩
  rintro t i C ⟨i', lg, hi, rfl, rfl, hI⟩
  refine ⟨fun hc => ?_, fun hc => ?_⟩
  · have := q_exl (n := 4) (by decide) hi hc
    subst this
    obtain ⟨cl, hcl, hne, hb, -⟩ := hI
    refine ⟨fun hz => h0 _ ?_, fun hz => h1 _ ?_⟩
    · have hz := (nI_leI (a := lg) (b := 4) (by omega) (by omega)).mp hz
      intro v hv hE
      obtain ⟨a1, a2, a3, a4⟩ := hcl v hv
      have := a4 hE
      omega
    · have hz := mt (nI_leI (a := lg) (b := 4) (by omega) (by omega)).mpr hz
      intro q
      obtain ⟨v, hv, hE⟩ := mE_some (j := 5) (k := lg) (by omega) hne
      exact q v hv hE
  · have hi' := q_inl (n := 4) (by decide) hi hc
    refine sp_lengthen hP (k := i') (B := 144 * i') (by omega) hI (fun lg' C' hI' => ?_)
    rw [nI_1]
    obtain ⟨cl, hcl, hne, hb, hpr⟩ := hI'
    refine ⟨⟨i' + 1, lg', by omega, rfl, rfl, cl, fun v hv => ?_, hne, by omega, fun o d ho hd hq => by omega⟩, q_mu (by omega) (by decide)⟩
    obtain ⟨a1, a2, a3, a4⟩ := hcl v hv
    refine ⟨a1, a2, a3, fun q => ?_⟩
    obtain ⟨o, ho, hE, hp⟩ := q
    exact hpr o v ho hv (Or.inl ho) hE hp
/-- a truth as Java keeps it -/
def bI (b : Bool) : Int32 := if b then 1 else 0
theorem bI_0 {b : Bool} : bI b = 0 ↔ b = false := by cases b <;> decide
theorem sp_heldUC {P : Nat → Int32} (hP : pOK P) {X : Nat → Bool} {U : Nat → Int32} (hU : ∀ v, v < 12 → U v = bI (X v)) {d : Nat} (hd : d < 12) {post : Int32 → Unit → Prop} (h : post (nI (mS (fun o => if X o then hOf P o d else 0) 12)) ()) : wp_H_heldUnderControl (nI d) P U post := by
  unfold wp_H_heldUnderControl
  refine ⟨fun t i => ∃ k : Nat, k ≤ 12 ∧ t = nI (mS (fun o => if X o then hOf P o d else 0) k) ∧ i = nI k, fun _ i => 12 - i.toNatClampNeg, ⟨0, by omega, rfl, rfl⟩, ?_⟩
  rintro t i ⟨k, hk, rfl, rfl⟩
  refine ⟨fun hc => ?_, fun hc => ?_⟩
  · have := q_ex (n := 12) (by decide) hk hc
    subst this
    exact h
  · have hk' := q_in (n := 12) (by decide) hk hc
    rw [ix12, nI_clamp (n := k) (by omega), nI_1, hU k hk']
    refine ⟨vp_in_nI hk' (by decide), fun hz => ?_, fun hz => ⟨vp_in_nI (by omega) (by decide), fun x hx => ?_⟩⟩
    · have e : X k = false := bI_0.mp hz
      exact ⟨⟨k + 1, by omega, by simp [mS, e], rfl⟩, q_mu hk' (by decide)⟩
    · have e : X k = true := by
        cases q : X k with
        | true => rfl
        | false => rw [q] at hz; exact absurd rfl hz
      rw [nI_clamp (by omega), (hOf_eq hP hk' hd).1, nI_add] at hx
      subst hx
      exact ⟨⟨k + 1, by omega, by simp [mS, e], rfl⟩, q_mu hk' (by decide)⟩
theorem nz1 : vp_nar .boolean 1 = 1 := by decide
theorem nz0 : vp_nar .boolean 0 = 0 := by decide
def cInv (h : Nat → Nat → Nat) (r c : Nat) (U : Nat → Int32) : Prop := ∃ X : Nat → Bool, (∀ v, v < 12 → U v = bI (X v)) ∧ (∀ v, v < 12 → X v = true → mC h 4 v = true) ∧ (∀ v, v < 12 → mC h r v = true → X v = true) ∧ (∀ v, v < c → mC h (r + 1) v = true → X v = true)
set_option maxHeartbeats 1000000 in
theorem sp_findControl {P : Nat → Int32} (hP : pOK P) (hc0 : mCol (hOf P)) (hok : mOK (hOf P)) {U : Nat → Int32} {post : (Nat → Int32) → Prop} (h : ∀ V : Nat → Int32, (∀ v, v < 12 → V v = bI (mC (hOf P) 4 v)) → post V) : wp_H_findControl P U post := by
  unfold wp_H_findControl
  refine ⟨fun i V => ∃ k : Nat, k ≤ 12 ∧ i = nI k ∧ ∀ v, v < k → V v = bI (v == 0), fun i _ => 12 - i.toNatClampNeg, ⟨0, by omega, rfl, fun v hv => absurd hv (Nat.not_lt_zero _)⟩, ?_⟩
  rintro i V ⟨k, hk, rfl, hV⟩
  refine ⟨fun hc => ?_, fun hc => ?_⟩
  · have := q_ex (n := 12) (by decide) hk hc
    subst this
    refine ⟨fun i V => ∃ r : Nat, r ≤ 4 ∧ i = nI r ∧ cInv (hOf P) r 0 V, fun i _ => 4 - i.toNatClampNeg, ⟨0, by omega, rfl, fun v => v == 0, hV, fun v _ q => mC_mono (j := 0) (by omega) q, fun v _ q => q, fun v hv => absurd hv (Nat.not_lt_zero _)⟩, ?_⟩
    clear hV
    rintro i V ⟨r, hr, rfl, hI⟩
    refine ⟨fun hc => ?_, fun hc => ?_⟩
    · have := q_ex (n := 4) (by decide) hr hc
      subst this
      obtain ⟨X, h1, h2, h3, -⟩ := hI
      refine h V (fun v hv => ?_)
      rw [h1 v hv]
      congr 1
      cases q : mC (hOf P) 4 v with
      | true => exact h3 v hv q
      | false =>
        cases w : X v with
        | false => rfl
        | true => rw [h2 v hv w] at q; cases q
    · have hr' := q_in (n := 4) (by decide) hr hc
      refine ⟨fun j V => ∃ c : Nat, c ≤ 12 ∧ j = nI c ∧ cInv (hOf P) r c V, fun j _ => 12 - j.toNatClampNeg, ⟨0, by omega, rfl, hI⟩, ?_⟩
      clear hI
      rintro j V ⟨c, hcl, rfl, hI⟩
      refine ⟨fun hc => ?_, fun hc => ?_⟩
      · have := q_ex (n := 12) (by decide) hcl hc
        subst this
        obtain ⟨X, h1, h2, h3, h4⟩ := hI
        rw [nI_1]
        exact ⟨⟨r + 1, by omega, rfl, X, h1, h2, h4, fun v hv => absurd hv (Nat.not_lt_zero _)⟩, q_mu hr' (by decide)⟩
      · have hc' := q_in (n := 12) (by decide) hcl hc
        obtain ⟨X, h1, h2, h3, h4⟩ := hI
        rw [nI_clamp (n := c) (by omega), nI_1, h1 c hc', nz1, nz0]
        have hin : vp_in (nI c) 12 := vp_in_nI hc' (by decide)
        -- X with c set, or as it is
        have keep : ∀ b : Bool, b = X c → (∀ v, v < 12 → upd V c (bI b) v = bI (X v)) := by
          intro b hb v hv
          by_cases e : v = c
          · subst e; rw [pk_us, hb]
          · rw [pk_un e]; exact h1 v hv
        refine ⟨hin, fun hz => ⟨hin, ?_, q_mu hc' (by decide)⟩, fun hz => ?_⟩
        · have e : X c = true := by
            cases q : X c with
            | true => rfl
            | false => rw [q] at hz; exact absurd rfl hz
          refine ⟨c + 1, by omega, rfl, X, keep true e.symm, h2, h3, fun v hv q => ?_⟩
          by_cases w : v = c
          · subst w; exact e
          · exact h4 v (by omega) q
        · have e : X c = false := bI_0.mp hz
          refine sp_heldUC hP h1 hc' ?_
          have hle : mS (fun o => if X o then hOf P o c else 0) 12 ≤ 10000 := Nat.le_trans (mS_le fun o _ => by split <;> omega) (hc0 c hc')
          refine ⟨fun hy => ⟨hin, ?_, q_mu hc' (by decide)⟩, fun hy => ⟨hin, ?_, q_mu hc' (by decide)⟩⟩
          · have hy := (nI_leI (a := mS (fun o => if X o then hOf P o c else 0) 12) (b := 5000) (by omega) (by omega)).mp hy
            refine ⟨c + 1, by omega, rfl, X, keep false e.symm, h2, h3, fun v hv q => ?_⟩
            by_cases w : v = c
            · subst w
              exfalso
              simp only [mC, Bool.or_eq_true, decide_eq_true_eq] at q
              rcases q with q | q
              · rw [h3 v hc' q] at e; cases e
              · have : mS (fun o => if mC (hOf P) r o then hOf P o v else 0) 12 ≤ mS (fun o => if X o then hOf P o v else 0) 12 := mS_le fun o ho => by
                  by_cases z : mC (hOf P) r o = true
                  · rw [if_pos z, if_pos (h3 o ho z)]; exact Nat.le_refl _
                  · rw [if_neg z]; exact Nat.zero_le _
                omega
            · exact h4 v (by omega) q
          · have hy := mt (nI_leI (a := mS (fun o => if X o then hOf P o c else 0) 12) (b := 5000) (by omega) (by omega)).mpr hy
            have hC : mC (hOf P) 4 c = true := mC_closed hok h2 hc' (by omega)
            refine ⟨c + 1, by omega, rfl, fun v => if v = c then true else X v, fun v hv => ?_, fun v hv q => ?_, fun v hv q => ?_, fun v hv q => ?_⟩
            · by_cases w : v = c
              · subst w; rw [pk_us]; simp [bI]
              · rw [pk_un w]; simp only [w, if_false]; exact h1 v hv
            · by_cases w : v = c
              · subst w; exact hC
              · simp only [w, if_false] at q; exact h2 v hv q
            · by_cases w : v = c
              · simp [w]
              · simp only [w, if_false]; exact h3 v hv q
            · by_cases w : v = c
              · simp [w]
              · simp only [w, if_false]; exact h4 v (by omega) q
  · have hk' := q_in (n := 12) (by decide) hk hc
    rw [nI_clamp (n := k) (by omega), nI_1, nz1, nz0]
    have hin : vp_in (nI k) 12 := vp_in_nI hk' (by decide)
    refine ⟨fun hz => ⟨hin, ⟨k + 1, by omega, rfl, fun v hv => ?_⟩, q_mu hk' (by decide)⟩, fun hz => ⟨hin, ⟨k + 1, by omega, rfl, fun v hv => ?_⟩, q_mu hk' (by decide)⟩⟩
    · have hz : k ≠ 0 := fun w => hz (by rw [w]; rfl)
      by_cases e : v = k
      · subst e; rw [pk_us]; simp [bI, hz]
      · rw [pk_un e]; exact hV v (by omega)
    · have hz : k = 0 := (nI_eq (a := k) (b := 0) (by omega) (by omega)).mp hz
      by_cases e : v = k
      · subst e; rw [pk_us]; simp [bI, hz]
      · rw [pk_un e]; exact hV v (by omega)
theorem pw16 {k : Nat} (hk : k ≤ 4) : 10000 ^ k ≤ 10000000000000000 := Nat.le_trans (Nat.pow_le_pow_right (by decide) hk) (by decide)
theorem mWs {h : Nat → Nat → Nat} (hc : mCol h) {k v : Nat} (hk : k ≤ 4) (hv : v < 12) : 10000 ^ (4 - k) * mW h k v ≤ 10000000000000000 := by
  have h1 := mW_le hc (k := k) hv
  calc 10000 ^ (4 - k) * mW h k v ≤ 10000 ^ (4 - k) * 10000 ^ k := Nat.mul_le_mul_left _ h1
    _ = 10000 ^ (4 - k + k) := (Nat.pow_add _ _ _).symm
    _ = 10000 ^ 4 := by rw [show 4 - k + k = 4 by omega]
    _ ≤ 10000000000000000 := by decide
theorem sp_addLink {P : Nat → Int32} (hP : pOK P) (hcol : mCol (hOf P)) {k : Nat} (hk : k < 4) {C G : Nat → Int64} (hC : ∀ v, v < 12 → C v = lN (10000 ^ (4 - k) * mW (hOf P) k v)) {post : ((Nat → Int64) × (Nat → Int64)) → Prop}
    (h : ∀ C' G' : Nat → Int64, (∀ v, v < 12 → C' v = lN (10000 ^ (3 - k) * mW (hOf P) (k + 1) v)) → post (C', G')) : wp_H_addLink P C G post := by
  unfold wp_H_addLink
  refine sp_fillJ (by decide) (fun g hg _ => ?_)
  refine ⟨fun i L => ∃ a : Nat, a ≤ 12 ∧ i = nI a ∧ ∀ v, v < 12 → L v = lN (10000 ^ (3 - k) * mS (fun o => mW (hOf P) k o * hOf P o v) a), fun i _ => 12 - i.toNatClampNeg, ⟨0, by omega, rfl, fun v hv => hg v hv⟩, ?_⟩
  rintro i L ⟨a, ha, rfl, hL⟩
  refine ⟨fun hc => ?_, fun hc => ?_⟩
  · have := q_ex (n := 12) (by decide) ha hc
    subst this
    refine h _ _ (fun v hv => ?_)
    rw [pk_cpy_in (by omega) (by omega), show 0 + (v - 0) = v by omega]
    exact hL v hv
  · have ha' := q_in (n := 12) (by decide) ha hc
    refine ⟨vp_in_nI ha' (by decide), fun x hx => ?_⟩
    have hx : x = lN (10000 ^ (3 - k) * mW (hOf P) k a) := by
      rw [hx, nI_clamp (by omega), hC a ha', show (10000 : Int64) = lN 10000 from rfl, pk_lDiv (Nat.lt_of_le_of_lt (mWs hcol (by omega) ha') (by decide)) (by decide) (by decide)]
      congr 1
      rw [show 4 - k = (3 - k) + 1 by omega, Nat.pow_succ, Nat.mul_right_comm]
      exact Nat.mul_div_cancel _ (by decide)
    refine ⟨fun j L => ∃ b : Nat, b ≤ 12 ∧ j = nI b ∧ ∀ v, v < 12 → L v = lN (10000 ^ (3 - k) * mS (fun o => mW (hOf P) k o * hOf P o v) (if v < b then a + 1 else a)), fun j _ => 12 - j.toNatClampNeg, ⟨0, by omega, rfl, fun v hv => by rw [if_neg (Nat.not_lt_zero _)]; exact hL v hv⟩, ?_⟩
    clear hL
    rintro j L ⟨b, hb, rfl, hL⟩
    refine ⟨fun hc => ?_, fun hc => ?_⟩
    · have := q_ex (n := 12) (by decide) hb hc
      subst this
      rw [nI_1]
      exact ⟨⟨a + 1, by omega, rfl, fun v hv => by rw [hL v hv, if_pos hv]⟩, q_mu ha' (by decide)⟩
    · have hb' := q_in (n := 12) (by decide) hb hc
      rw [ix12, nI_clamp (n := a * 12 + b) (by omega), nI_clamp (n := b) (by omega), nI_1, (hOf_eq hP ha' hb').1, nI_l (Nat.lt_of_le_of_lt (hOf_eq hP ha' hb').2 (by decide)), hx, lN_mul, hL b hb', if_neg (Nat.lt_irrefl _), lN_add]
      refine ⟨vp_in_nI hb' (by decide), vp_in_nI (by omega) (by decide), vp_in_nI hb' (by decide), ⟨b + 1, by omega, rfl, fun v hv => ?_⟩, q_mu hb' (by decide)⟩
      by_cases e : v = b
      · subst e
        rw [pk_uLs, if_pos (by omega)]
        congr 1
        show _ = 10000 ^ (3 - k) * (mS (fun o => mW (hOf P) k o * hOf P o v) a + mW (hOf P) k a * hOf P a v)
        rw [Nat.mul_add, Nat.mul_assoc]
      · rw [pk_uLn e, hL v hv]
        by_cases w : v < b
        · rw [if_pos w, if_pos (by omega)]
        · rw [if_neg w, if_neg (by omega)]
def shN (h : Nat → Nat → Nat) (n v : Nat) : Nat := (if v = 0 then 10000000000000000 else 0) + 10000 ^ (4 - n) * mT h n v
theorem shN_step {h : Nat → Nat → Nat} {n v : Nat} (hn : n < 4) : shN h n v + 10000 ^ (3 - n) * mW h (n + 1) v = shN h (n + 1) v := by
  unfold shN
  show _ = _ + 10000 ^ (4 - (n + 1)) * (10000 * mT h n v + mW h (n + 1) v)
  rw [show 4 - (n + 1) = 3 - n by omega, show 4 - n = (3 - n) + 1 by omega, Nat.pow_succ, Nat.mul_add, ← Nat.mul_assoc]
  omega
theorem sp_findShares {P : Nat → Int32} (hP : pOK P) (hcol : mCol (hOf P)) {S C G : Nat → Int64} {post : ((Nat → Int64) × (Nat → Int64) × (Nat → Int64)) → Prop} (h : ∀ S' C' G' : Nat → Int64, (∀ v, v < 12 → S' v = lN (shN (hOf P) 4 v)) → post (S', C', G')) : wp_H_findShares P S C G post := by
  unfold wp_H_findShares
  refine sp_fillJ (by decide) (fun s1 hs1 _ => ?_)
  refine sp_fillJ (by decide) (fun c1 hc1 _ => ?_)
  refine ⟨fun i S C _ => ∃ n : Nat, n ≤ 4 ∧ i = nI (n + 1) ∧ (∀ v, v < 12 → S v = lN (shN (hOf P) n v)) ∧ ∀ v, v < 12 → C v = lN (10000 ^ (4 - n) * mW (hOf P) n v), fun i _ _ _ => 5 - i.toNatClampNeg, ⟨0, by omega, rfl, fun v hv => ?_, fun v hv => ?_⟩, ?_⟩
  · by_cases e : v = 0
    · subst e; rw [pk_uLs]; rfl
    · rw [pk_uLn e, hs1 v hv]; simp [shN, e, mT]; rfl
  · by_cases e : v = 0
    · subst e; rw [pk_uLs]; rfl
    · rw [pk_uLn e, hc1 v hv]; simp [mW, e]; rfl
  · rintro i S C G ⟨n, hn, rfl, hS, hC⟩
    refine ⟨fun hc => ?_, fun hc => ?_⟩
    · have := q_exl (n := 4) (by decide) (by omega) hc
      have : n = 4 := by omega
      subst this
      exact h _ _ _ hS
    · have hn' := q_inl (n := 4) (k := n + 1) (by decide) (by omega) hc
      refine sp_addLink hP hcol (k := n) (by omega) hC (fun C' G' hC' => ?_)
      refine ⟨fun j S => ∃ b : Nat, b ≤ 12 ∧ j = nI b ∧ ∀ v, v < 12 → S v = lN (shN (hOf P) (if v < b then n + 1 else n) v), fun j _ => 12 - j.toNatClampNeg, ⟨0, by omega, rfl, fun v hv => by rw [if_neg (Nat.not_lt_zero _)]; exact hS v hv⟩, ?_⟩
      clear hS
      rintro j S ⟨b, hb, rfl, hS⟩
      refine ⟨fun hc => ?_, fun hc => ?_⟩
      · have := q_ex (n := 12) (by decide) hb hc
        subst this
        rw [nI_1]
        refine ⟨⟨n + 1, by omega, rfl, fun v hv => by rw [hS v hv, if_pos hv], fun v hv => ?_⟩, q_mu (by omega) (by decide)⟩
        rw [show 4 - (n + 1) = 3 - n by omega]
        exact hC' v hv
      · have hb' := q_in (n := 12) (by decide) hb hc
        have hin : vp_in (nI b) 12 := vp_in_nI hb' (by decide)
        rw [nI_clamp (n := b) (by omega), nI_1]
        refine ⟨hin, hin, hin, ⟨b + 1, by omega, rfl, fun v hv => ?_⟩, q_mu hb' (by decide)⟩
        by_cases e : v = b
        · subst e
          rw [pk_uLs, if_pos (by omega), hS v hv, if_neg (Nat.lt_irrefl _), show (C', G').1 v = C' v from rfl, hC' v hv, lN_add, shN_step (by omega)]
        · rw [pk_uLn e, hS v hv]
          by_cases w : v < b
          · rw [if_pos w, if_pos (by omega)]
          · rw [if_neg w, if_neg (by omega)]
/-- what Holdings holds -/
def hInv (P U : Nat → Int32) (S : Nat → Int64) : Prop := pOK P ∧ mCol (hOf P) ∧ mOK (hOf P) ∧ (∀ v, v < 12 → U v = bI (mC (hOf P) 4 v)) ∧ ∀ v, v < 12 → S v = lN (shN (hOf P) 4 v)
theorem up_id {f : Nat → Int32} {i : Nat} {x : Int32} : upd (upd f i x) i (f i) = f := by
  funext j
  by_cases e : j = i
  · subst e; exact pk_us
  · rw [pk_un e, pk_un e]
theorem pOK_up {P : Nat → Int32} (h : pOK P) {i n : Nat} (hn : n ≤ 10000) : pOK (upd P i (nI n)) := by
  intro j hj
  by_cases e : j = i
  · subst e; exact ⟨n, hn, pk_us⟩
  · rw [pk_un e]; exact h j hj
theorem hOf_up {P : Nat → Int32} {o d n a b : Nat} (hn : n ≤ 10000) (hd : d < 12) (hb : b < 12) : hOf (upd P (o * 12 + d) (nI n)) a b = if a = o ∧ b = d then n else hOf P a b := by
  unfold hOf
  by_cases e : a = o ∧ b = d
  · obtain ⟨rfl, rfl⟩ := e
    rw [pk_us, if_pos ⟨rfl, rfl⟩, nI_clamp (by omega)]
  · rw [pk_un (by omega), if_neg e]
theorem mCol_up {P : Nat → Int32} (hc : mCol (hOf P)) {o d n : Nat} (hn : n ≤ 10000) (hd : d < 12) (hs : mS (fun a => hOf (upd P (o * 12 + d) (nI n)) a d) 12 ≤ 10000) : mCol (hOf (upd P (o * 12 + d) (nI n))) := by
  intro v hv
  by_cases e : v = d
  · subst e; exact hs
  · rw [mS_congr (g := fun a => hOf P a v) (fun a _ => by rw [hOf_up hn hd hv, if_neg (by omega)])]
    exact hc v hv
theorem sp_change {P U CL : Nat → Int32} {S C G : Nat → Int64} (hI : hInv P U S) {o d n : Nat} (ho : o < 12) (hd : d < 12) (hn : n ≤ 10000) {post : Int32 → ((Nat → Int32) × (Nat → Int32) × (Nat → Int32) × (Nat → Int64) × (Nat → Int64) × (Nat → Int64)) → Prop}
    (h1 : mS (fun a => hOf (upd P (o * 12 + d) (nI n)) a d) 12 ≤ 10000 → mOK (hOf (upd P (o * 12 + d) (nI n))) → ∀ (L U' : Nat → Int32) (S' C' G' : Nat → Int64), hInv (upd P (o * 12 + d) (nI n)) U' S' → post 1 (upd P (o * 12 + d) (nI n), L, U', S', C', G'))
    (h0 : ¬ (mS (fun a => hOf (upd P (o * 12 + d) (nI n)) a d) 12 ≤ 10000 ∧ mOK (hOf (upd P (o * 12 + d) (nI n)))) → ∀ L : Nat → Int32, post 0 (P, L, U, S, C, G)) : wp_H_change (nI o) (nI d) (nI n) P CL U S C G post := by
  obtain ⟨hP, hcol, hok, hU, hS⟩ := hI
  have hP' := pOK_up hP (i := o * 12 + d) hn
  unfold wp_H_change
  intro x hx
  rw [ix12] at hx
  subst hx
  have hin : vp_in (nI (o * 12 + d)) 144 := vp_in_nI (by omega) (by decide)
  rw [nI_clamp (by omega)]
  refine ⟨hin, fun y hy => ⟨hin, sp_heldInAll hP' hd ?_⟩⟩
  subst hy
  rw [up_id]
  have hsz : mS (fun a => hOf (upd P (o * 12 + d) (nI n)) a d) 12 < 2 ^ 31 := by
    have : mS (fun a => hOf (upd P (o * 12 + d) (nI n)) a d) 12 ≤ mS (fun _ => 10000) 12 := mS_le fun a ha => (hOf_eq hP' ha hd).2
    have e : mS (fun _ => 10000) 12 = 120000 := rfl
    omega
  refine ⟨fun hc => ⟨hin, ?_⟩, fun hc => ?_⟩
  · have hc := (nI_ltI (a := 10000) (by decide) hsz).mp hc
    exact h0 (fun q => by omega) _
  · have hc := mt (nI_ltI (a := 10000) (by decide) hsz).mpr hc
    refine sp_tooLong hP' (fun L q => ⟨fun _ => ?_, fun z => absurd rfl z⟩) (fun L q => ⟨fun z => absurd z (by decide), fun _ => ⟨hin, ?_⟩⟩)
    · have hcol' := mCol_up hcol (o := o) hn hd (by omega)
      refine sp_findControl hP' hcol' q (fun V hV => sp_findShares hP' hcol' (fun S' C' G' hS' => ?_))
      exact h1 (by omega) q _ _ _ _ _ ⟨hP', hcol', q, hV, hS'⟩
    · exact h0 (fun z => q z.2) _
