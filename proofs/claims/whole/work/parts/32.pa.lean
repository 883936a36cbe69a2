/-! pure: the simple calls of the desk and of the reference side by side -/
theorem j_add {x y : Int64} (h1 : -9223372036854775808 ≤ x.toInt + y.toInt) (h2 : x.toInt + y.toInt < 9223372036854775808) : (x + y).toInt = x.toInt + y.toInt := by
  rw [Int64.toInt_add, Int.bmod_eq_of_le (by omega) (by omega)]
theorem j_sub {x y : Int64} (h1 : -9223372036854775808 ≤ x.toInt - y.toInt) (h2 : x.toInt - y.toInt < 9223372036854775808) : (x - y).toInt = x.toInt - y.toInt := by
  rw [Int64.toInt_sub, Int.bmod_eq_of_le (by omega) (by omega)]
theorem j_neg {x : Int64} (h1 : -9223372036854775808 < x.toInt) : (-x).toInt = -x.toInt := by
  have := Int64.toInt_lt x
  rw [Int64.toInt_neg, Int.bmod_eq_of_le (by omega) (by omega)]
theorem e_c1 {n k : Nat} (hk : k < n) (hn : n ≤ 12) {post : Int32 → Unit → Prop} (h : post 1 ()) : wp_D_isCompany (nI k) (nI n) post :=
  ⟨fun q => absurd q (nI_pos (by omega)), fun _ => ⟨fun q => absurd q (nI_ge hk (by omega)), fun _ => h⟩⟩
theorem e_c0 {n : Nat} {p : Int32} (h0 : p < 0 ∨ nI n ≤ p) {post : Int32 → Unit → Prop} (h : post 0 ()) : wp_D_isCompany p (nI n) post :=
  ⟨fun _ => h, fun q => ⟨fun _ => h, fun z => absurd h0 (fun w => w.elim q z)⟩⟩
theorem e_a1 {n k : Nat} (hk : k < n) (hn : n ≤ 12) {post : Int32 → Unit → Prop} (h : post 1 ()) : wp_D_isAccount (nI k) (nI n) post := e_c1 hk hn h
theorem e_a0 {n : Nat} {p : Int32} (h0 : p < 0 ∨ nI n ≤ p) {post : Int32 → Unit → Prop} (h : post 0 ()) : wp_D_isAccount p (nI n) post := e_c0 h0 h
theorem f_c1 {n k : Nat} (hk : k < n) (hn : n ≤ 12) {post : Int32 → Unit → Prop} (h : post 1 ()) : wp_M_isCompany (nI k) (nI n) post := e_c1 hk hn h
theorem f_c0 {n : Nat} {p : Int32} (h0 : p < 0 ∨ nI n ≤ p) {post : Int32 → Unit → Prop} (h : post 0 ()) : wp_M_isCompany p (nI n) post := e_c0 h0 h
theorem f_a1 {n k : Nat} (hk : k < n) (hn : n ≤ 12) {post : Int32 → Unit → Prop} (h : post 1 ()) : wp_M_isAccount (nI k) (nI n) post := e_c1 hk hn h
theorem f_a0 {n : Nat} {p : Int32} (h0 : p < 0 ∨ nI n ≤ p) {post : Int32 → Unit → Prop} (h : post 0 ()) : wp_M_isAccount p (nI n) post := e_c0 h0 h
theorem c_or (p : Int32) {n : Nat} (hn : n ≤ 12) : (∃ k, k < n ∧ p = nI k) ∨ (p < 0 ∨ nI n ≤ p) := by
  rcases pk_ix p (n := n) (by omega) with h | h | h
  · exact Or.inr (Or.inl h)
  · exact Or.inr (Or.inr h)
  · exact Or.inl h
/-- the companies -/
def ic (n : Nat) (xc : Int32) (xcur : Nat → Int32) (mc : Int32) (mcur : Nat → Int32) : Prop := 1 ≤ n ∧ n ≤ 12 ∧ xc = nI n ∧ mc = nI n ∧ (∀ i, i < 12 → xcur i = mcur i) ∧ ∀ i, i < n → ∃ q : Nat, q < 4 ∧ mcur i = nI q
theorem cs_company {n : Nat} {xc mc : Int32} {xcur mcur : Nat → Int32} (h : ic n xc xcur mc mcur) (v mt : Int32) : ∃ (r : Int32) (u : Int32 × (Nat → Int32)) (u' : Int32 × Int32 × (Nat → Int32)) (n' : Nat),
    (∀ post : Int32 → (Int32 × (Nat → Int32)) → Prop, post r u → wp_D_company v xc xcur post) ∧ (∀ post : Int32 → (Int32 × Int32 × (Nat → Int32)) → Prop, post r u' → wp_M_company v mt mc mcur post) ∧ n ≤ n' ∧ ic n' u.1 u.2 u'.2.1 u'.2.2 := by
  obtain ⟨h1, h2, rfl, rfl, h3, h4⟩ := h
  by_cases hc : (∃ q : Nat, q < 4 ∧ v = nI q) ∧ n < 12
  · obtain ⟨⟨q, hq, rfl⟩, hn⟩ := hc
    have e1 : ¬ nI q < 0 := nI_pos (by omega)
    have e2 : ¬ (4 : Int32) ≤ nI q := nI_ge (a := q) (b := 4) hq (by omega)
    have e3 : ¬ (3 : Int32) < nI q := fun z => by have := (nI_ltI (a := 3) (b := q) (by omega) (by omega)).mp z; omega
    have e4 : ¬ nI n = 12 := fun z => by have := (nI_eq (a := n) (b := 12) (by omega) (by omega)).mp z; omega
    refine ⟨nI n, (nI (n + 1), upd xcur n (nI q)), (0, nI (n + 1), upd mcur n (nI q)), n + 1, fun post hp => ?_, fun post hp => ?_, by omega, by omega, by omega, rfl, rfl, fun i hi => ?_, fun i hi => ?_⟩
    · unfold wp_D_company wp_D_isCurrency
      refine ⟨fun z => absurd z e1, fun _ => ⟨fun z => absurd z e2, fun _ => ⟨fun z => absurd z (by decide), fun _ => ⟨fun _ => ?_, fun z => absurd z e4⟩⟩⟩⟩
      rw [nI_1, nI_pred, nI_clamp (by omega)]
      exact ⟨vp_in_nI hn (by decide), hp⟩
    · unfold wp_M_company
      refine ⟨fun z => absurd z e1, fun _ => ⟨fun z => absurd z e3, fun _ => ⟨fun _ => ?_, fun z => absurd z e4⟩⟩⟩
      rw [nI_1, nI_pred, nI_clamp (by omega)]
      exact ⟨vp_in_nI hn (by decide), hp⟩
    · dsimp only
      by_cases e : i = n
      · subst e; rw [pk_us, pk_us]
      · rw [pk_un e, pk_un e]; exact h3 i hi
    · dsimp only
      by_cases e : i = n
      · subst e; exact ⟨q, hq, pk_us⟩
      · rw [pk_un e]; exact h4 i (by omega)
  · refine ⟨-1, (nI n, xcur), (0, nI n, mcur), n, fun post hp => ?_, fun post hp => ?_, by omega, h1, h2, rfl, rfl, h3, h4⟩
    · unfold wp_D_company wp_D_isCurrency
      refine ⟨fun _ => ⟨fun _ => hp, fun z => absurd rfl z⟩, fun a => ⟨fun _ => ⟨fun _ => hp, fun z => absurd rfl z⟩, fun b => ⟨fun z => absurd z (by decide), fun _ => ⟨fun w => ?_, fun _ => hp⟩⟩⟩⟩
      exfalso
      rcases pk_ix v (n := 4) (by omega) with z | z | ⟨q, hq, rfl⟩
      · exact a z
      · exact b z
      · exact hc ⟨⟨q, hq, rfl⟩, by
          have : n ≠ 12 := fun z => w (by rw [z]; rfl)
          omega⟩
    · unfold wp_M_company
      refine ⟨fun _ => hp, fun a => ⟨fun _ => hp, fun b => ⟨fun w => ?_, fun _ => hp⟩⟩⟩
      exfalso
      rcases pk_ix v (n := 4) (by omega) with z | z | ⟨q, hq, rfl⟩
      · exact a z
      · refine b ?_
        rw [Int32.lt_iff_toInt_lt]
        rw [Int32.le_iff_toInt_le, nI_toInt (by omega)] at z
        have : (3 : Int32).toInt = 3 := by decide
        omega
      · exact hc ⟨⟨q, hq, rfl⟩, by
          have : n ≠ 12 := fun z => w (by rw [z]; rfl)
          omega⟩
/-- the accounts -/
def ia (na : Nat) (xa xr : Int32) (xso : Nat → Int32) (ma : Int32) (mso : Nat → Int32) : Prop := na ≤ 12 ∧ xa = nI na ∧ ma = nI na ∧ (∀ i, i < 12 → xso i = mso i) ∧ (∀ i, i < na → ∃ s : Nat, 1 ≤ s ∧ s ≤ 4 ∧ mso i = nI s) ∧ ((xr = -1 ∧ ∀ i, i < na → ¬ mso i = 4) ∨ ∃ r : Nat, r < na ∧ xr = nI r ∧ mso r = 4 ∧ ∀ i, i < na → mso i = 4 → i = r)
theorem sp_reserve {na : Nat} (hn : na ≤ 12) {so : Nat → Int32} {post : Int32 → Unit → Prop} (h0 : (∀ i, i < na → ¬ so i = 4) → post (-1) ()) (h1 : ∀ r, r < na → so r = 4 → post (nI r) ()) : wp_M_reserve (nI na) so post := by
  unfold wp_M_reserve
  refine ⟨fun i => ∃ k : Nat, k ≤ na ∧ i = nI k ∧ ∀ j, j < k → ¬ so j = 4, fun i => na - i.toNatClampNeg, ⟨0, by omega, rfl, fun j hj => absurd hj (Nat.not_lt_zero _)⟩, ?_⟩
  rintro i ⟨k, hk, rfl, hj⟩
  refine ⟨fun hc => ?_, fun hc => ?_⟩
  · have := q_ex (by omega) hk hc
    subst this
    exact h0 hj
  · have hk' := q_in (by omega) hk hc
    rw [nI_clamp (by omega), nI_1]
    refine ⟨vp_in_nI (by omega) (by decide), fun hz => ⟨⟨k + 1, by omega, rfl, fun j hj' => ?_⟩, q_mu hk' (by omega)⟩, fun hz => h1 k hk' hz⟩
    by_cases e : j = k
    · subst e; exact hz
    · exact hj j (by omega)
theorem ne1 (r : Nat) (h : r < 2 ^ 31) : ¬ nI r = -1 := fun z => by
  have := congrArg Int32.toInt z
  rw [nI_toInt h] at this
  have e : (-1 : Int32).toInt = -1 := by decide
  omega
set_option maxHeartbeats 1000000 in
theorem cs_account {na : Nat} {xa xr ma : Int32} {xso mso : Nat → Int32} (h : ia na xa xr xso ma mso) (v mt : Int32) : ∃ (r : Int32) (u : Int32 × Int32 × (Nat → Int32)) (u' : Int32 × Int32 × (Nat → Int32)) (na' : Nat),
    (∀ post : Int32 → (Int32 × Int32 × (Nat → Int32)) → Prop, post r u → wp_D_account v xa xr xso post) ∧ (∀ post : Int32 → (Int32 × Int32 × (Nat → Int32)) → Prop, post r u' → wp_M_account v mt ma mso post) ∧ na ≤ na' ∧ ia na' u.1 u.2.1 u.2.2 u'.2.1 u'.2.2 ∧ ∀ i, i < na → u'.2.2 i = mso i := by
  obtain ⟨h2, rfl, rfl, h3, h4, h5⟩ := h
  by_cases hc : ∃ q : Nat, 1 ≤ q ∧ q ≤ 4 ∧ v = nI q ∧ na < 12 ∧ (q = 4 → xr = -1)
  · obtain ⟨q, hq1, hq2, rfl, hn, hr⟩ := hc
    have e1 : ¬ nI q < 1 := fun z => by have := (nI_ltI (a := q) (b := 1) (by omega) (by omega)).mp z; omega
    have e2 : ¬ (4 : Int32) < nI q := fun z => by have := (nI_ltI (a := 4) (b := q) (by omega) (by omega)).mp z; omega
    have e4 : ¬ nI na = 12 := fun z => by have := (nI_eq (a := na) (b := 12) (by omega) (by omega)).mp z; omega
    have e5 : nI q = 4 ↔ q = 4 := nI_eq (a := q) (b := 4) (by omega) (by omega)
    have hin : vp_in (nI na) 12 := vp_in_nI hn (by decide)
    have hso : ∀ i, i < 12 → upd xso na (nI q) i = upd mso na (nI q) i := fun i hi => by
      by_cases e : i = na
      · subst e; rw [pk_us, pk_us]
      · rw [pk_un e, pk_un e]; exact h3 i hi
    have hsv : ∀ i, i < na + 1 → ∃ s : Nat, 1 ≤ s ∧ s ≤ 4 ∧ upd mso na (nI q) i = nI s := fun i hi => by
      by_cases e : i = na
      · subst e; exact ⟨q, hq1, hq2, pk_us⟩
      · rw [pk_un e]; exact h4 i (by omega)
    by_cases hq : q = 4
    · subst hq
      have hr := hr rfl
      subst hr
      have h5' : ∀ i, i < na → ¬ mso i = 4 := by
        rcases h5 with ⟨-, z⟩ | ⟨r, hr, z, -⟩
        · exact z
        · exact absurd z.symm (ne1 r (by omega))
      refine ⟨nI na, (nI (na + 1), nI na, upd xso na (nI 4)), (0, nI (na + 1), upd mso na (nI 4)), na + 1, fun post hp => ?_, fun post hp => ?_, by omega, ⟨by omega, rfl, rfl, hso, hsv, Or.inr ⟨na, by omega, rfl, pk_us, fun i hi z => ?_⟩⟩, fun i hi => pk_un (by omega)⟩
      · unfold wp_D_account
        refine ⟨fun z => absurd z e1, fun _ => ⟨fun z => absurd z e2, fun _ => ⟨fun _ => ⟨fun z => absurd rfl z, fun _ => ⟨fun _ => ?_, fun z => absurd rfl z⟩⟩, fun z => absurd z e4⟩⟩⟩
        rw [nI_1, nI_pred, nI_clamp (by omega)]
        exact ⟨hin, hp⟩
      · unfold wp_M_account
        refine ⟨fun z => absurd z e1, fun _ => ⟨fun z => absurd z e2, fun _ => ⟨fun z => absurd z e4, fun _ => ⟨fun z => absurd rfl z, fun _ => ?_⟩⟩⟩⟩
        refine sp_reserve h2 (fun _ => ⟨fun _ => ?_, fun z => absurd (by decide) z⟩) (fun r hr z => absurd z (h5' r hr))
        rw [nI_1, nI_pred, nI_clamp (by omega)]
        exact ⟨hin, hp⟩
      · dsimp only at z
        by_cases e : i = na
        · exact e
        · rw [pk_un e] at z; exact absurd z (h5' i (by omega))
    · have e6 : ¬ nI q = 4 := fun z => hq (e5.mp z)
      refine ⟨nI na, (nI (na + 1), xr, upd xso na (nI q)), (0, nI (na + 1), upd mso na (nI q)), na + 1, fun post hp => ?_, fun post hp => ?_, by omega, ⟨by omega, rfl, rfl, hso, hsv, ?_⟩, fun i hi => pk_un (by omega)⟩
      · unfold wp_D_account
        refine ⟨fun z => absurd z e1, fun _ => ⟨fun z => absurd z e2, fun _ => ⟨fun _ => ⟨fun _ => ?_, fun z => absurd z e6⟩, fun z => absurd z e4⟩⟩⟩
        rw [nI_1, nI_pred, nI_clamp (by omega)]
        exact ⟨hin, hp⟩
      · unfold wp_M_account
        refine ⟨fun z => absurd z e1, fun _ => ⟨fun z => absurd z e2, fun _ => ⟨fun z => absurd z e4, fun _ => ⟨fun _ => ?_, fun z => absurd z e6⟩⟩⟩⟩
        rw [nI_1, nI_pred, nI_clamp (by omega)]
        exact ⟨hin, hp⟩
      · dsimp only
        rcases h5 with ⟨z1, z2⟩ | ⟨r, hr, z1, z2, z3⟩
        · refine Or.inl ⟨z1, fun i hi => ?_⟩
          by_cases e : i = na
          · subst e; rw [pk_us]; exact e6
          · rw [pk_un e]; exact z2 i (by omega)
        · refine Or.inr ⟨r, by omega, z1, by rw [pk_un (by omega)]; exact z2, fun i hi z => ?_⟩
          by_cases e : i = na
          · subst e; rw [pk_us] at z; exact absurd z e6
          · rw [pk_un e] at z; exact z3 i (by omega) z
  · have key : ¬ v < 1 → ¬ 4 < v → ¬ nI na = 12 → v = 4 ∧ ¬ xr = -1 := by
      intro a b d
      rcases pk_ix v (n := 5) (by omega) with z | z | ⟨q, hq, rfl⟩
      · exfalso; apply a
        rw [Int32.lt_iff_toInt_lt] at z ⊢
        have : (0 : Int32).toInt = 0 := by decide
        have : (1 : Int32).toInt = 1 := by decide
        omega
      · exfalso; apply b
        rw [Int32.lt_iff_toInt_lt]
        rw [Int32.le_iff_toInt_le, nI_toInt (by omega)] at z
        have : (4 : Int32).toInt = 4 := by decide
        omega
      · have hq1 : 1 ≤ q := by
          have := _root_.mt (nI_ltI (a := q) (b := 1) (by omega) (by omega)).mpr a; omega
        have hn : na < 12 := by
          have : na ≠ 12 := fun z => d (by rw [z]; rfl)
          omega
        by_cases e : q = 4
        · subst e
          exact ⟨rfl, fun z => hc ⟨4, by omega, by omega, rfl, hn, fun _ => z⟩⟩
        · exact absurd ⟨q, hq1, by omega, rfl, hn, fun z => absurd z e⟩ hc
    refine ⟨-1, (nI na, xr, xso), (0, nI na, mso), na, fun post hp => ?_, fun post hp => ?_, by omega, ⟨h2, rfl, rfl, h3, h4, h5⟩, fun i hi => rfl⟩
    · unfold wp_D_account
      refine ⟨fun _ => hp, fun a => ⟨fun _ => hp, fun b => ⟨fun d => ?_, fun _ => hp⟩⟩⟩
      obtain ⟨k1, k2⟩ := key a b d
      exact ⟨fun z => absurd k1 z, fun _ => ⟨fun z => absurd z k2, fun _ => hp⟩⟩
    · unfold wp_M_account
      refine ⟨fun _ => hp, fun a => ⟨fun _ => hp, fun b => ⟨fun _ => hp, fun d => ?_⟩⟩⟩
      obtain ⟨k1, k2⟩ := key a b d
      refine ⟨fun z => absurd k1 z, fun _ => ?_⟩
      rcases h5 with ⟨z, -⟩ | ⟨r, hr, z1, z2, z3⟩
      · exact absurd z k2
      · refine sp_reserve h2 (fun z => absurd z2 (z r hr)) (fun i hi z => ⟨fun w => absurd w (nI_pos (by omega)), fun _ => hp⟩)
/-- the rates -/
def ir (xcl xav mcl mav : Nat → Int32) : Prop := ∀ i, i < 4 → xcl i = mcl i ∧ xav i = mav i ∧ (∃ v : Nat, v ≤ 1000000000 ∧ mcl i = nI v) ∧ ∃ v : Nat, v ≤ 1000000000 ∧ mav i = nI v
theorem cs_rate {xcl xav mcl mav : Nat → Int32} (h : ir xcl xav mcl mav) (v c a mt : Int32) : ∃ (r : Int32) (u : (Nat → Int32) × (Nat → Int32)) (u' : Int32 × (Nat → Int32) × (Nat → Int32)),
    (∀ post : Int32 → ((Nat → Int32) × (Nat → Int32)) → Prop, post r u → wp_D_rate v c a xcl xav post) ∧ (∀ post : Int32 → (Int32 × (Nat → Int32) × (Nat → Int32)) → Prop, post r u' → wp_M_rate v c a mt mcl mav post) ∧ ir u.1 u.2 u'.2.1 u'.2.2 := by
  have t1 : (1 : Int32).toInt = 1 := by decide
  have t3 : (3 : Int32).toInt = 3 := by decide
  have t4 : (4 : Int32).toInt = 4 := by decide
  have t0 : (0 : Int32).toInt = 0 := by decide
  have tM : (1000000000 : Int32).toInt = 1000000000 := by decide
  by_cases hc : (1 ≤ v.toInt ∧ v.toInt ≤ 3) ∧ (1 ≤ c.toInt ∧ c.toInt ≤ 1000000000) ∧ (1 ≤ a.toInt ∧ a.toInt ≤ 1000000000)
  · obtain ⟨⟨v1, v2⟩, ⟨c1, c2⟩, a1, a2⟩ := hc
    obtain ⟨q, hq, rfl⟩ : ∃ q : Nat, q < 4 ∧ v = nI q := by
      rcases pk_ix v (n := 4) (by omega) with z | z | z
      · rw [Int32.lt_iff_toInt_lt] at z; omega
      · rw [Int32.le_iff_toInt_le, nI_toInt (by omega)] at z; omega
      · exact z
    have hN : ∀ x : Int32, 1 ≤ x.toInt → x.toInt ≤ 1000000000 → ∃ k : Nat, k ≤ 1000000000 ∧ x = nI k := fun x h1 h2 => by
      obtain ⟨k, hk, e⟩ := nI_of (x := x) (by rw [Int32.lt_iff_toInt_lt]; omega)
      rw [e, nI_toInt hk] at h2
      exact ⟨k, by omega, e⟩
    have hq0 : q ≠ 0 := fun z => by rw [z] at v1; exact absurd v1 (by decide)
    have hin : vp_in (nI q) 4 := vp_in_nI hq (by decide)
    refine ⟨1, (upd xcl q c, upd xav q a), (0, upd mcl q c, upd mav q a), fun post hp => ?_, fun post hp => ?_, fun i hi => ?_⟩
    · unfold wp_D_rate wp_D_isCurrency wp_D_isRate
      simp only [Int32.lt_iff_toInt_lt, Int32.le_iff_toInt_le, t0, t1, t4, tM]
      refine ⟨fun z => by omega, fun _ => ⟨fun z => ?_, fun _ => ⟨fun z => absurd z (by decide), fun _ => ⟨fun _ => ⟨fun z => by omega, fun _ => ⟨fun z => by omega, fun _ => ⟨fun z => absurd z (by decide), fun _ => ⟨fun z => by omega, fun _ => ⟨fun z => by omega, fun _ => ⟨fun _ => ?_, fun z => absurd z (by decide)⟩⟩⟩⟩⟩⟩, fun z => absurd ((nI_eq (a := q) (b := 0) (by omega) (by omega)).mp z) hq0⟩⟩⟩⟩
      · rw [nI_toInt (by omega)] at z; omega
      · rw [nI_clamp (by omega)]
        exact ⟨hin, hin, hp⟩
    · unfold wp_M_rate
      simp only [Int32.lt_iff_toInt_lt, Int32.le_iff_toInt_le, t1, t3, tM]
      refine ⟨fun z => by omega, fun _ => ⟨fun z => by omega, fun _ => ⟨fun z => by omega, fun _ => ⟨fun z => by omega, fun _ => ⟨fun z => by omega, fun _ => ⟨fun _ => ?_, fun z => absurd a2 z⟩⟩⟩⟩⟩⟩
      rw [nI_clamp (by omega)]
      exact ⟨hin, hin, hp⟩
    · obtain ⟨x1, x2, x3, x4⟩ := h i hi
      by_cases e : i = q
      · subst e
        show upd xcl i c i = upd mcl i c i ∧ upd xav i a i = upd mav i a i ∧ (∃ v : Nat, v ≤ 1000000000 ∧ upd mcl i c i = nI v) ∧ ∃ v : Nat, v ≤ 1000000000 ∧ upd mav i a i = nI v
        rw [pk_us, pk_us, pk_us, pk_us]
        exact ⟨rfl, rfl, hN c c1 c2, hN a a1 a2⟩
      · show upd xcl q c i = upd mcl q c i ∧ upd xav q a i = upd mav q a i ∧ (∃ v : Nat, v ≤ 1000000000 ∧ upd mcl q c i = nI v) ∧ ∃ v : Nat, v ≤ 1000000000 ∧ upd mav q a i = nI v
        rw [pk_un e, pk_un e, pk_un e, pk_un e]
        exact ⟨x1, x2, x3, x4⟩
  · refine ⟨0, (xcl, xav), (0, mcl, mav), fun post hp => ?_, fun post hp => ?_, h⟩
    · unfold wp_D_rate wp_D_isCurrency wp_D_isRate
      simp only [Int32.lt_iff_toInt_lt, Int32.le_iff_toInt_le, t0, t1, t4, tM]
      refine ⟨fun _ => ⟨fun _ => hp, fun z => absurd trivial z⟩, fun w1 => ⟨fun _ => ⟨fun _ => hp, fun z => absurd trivial z⟩, fun w2 => ⟨fun _ => hp, fun _ => ⟨fun w3 => ⟨fun _ => ⟨fun _ => hp, fun z => absurd trivial z⟩, fun w4 => ⟨fun _ => ⟨fun _ => hp, fun z => absurd trivial z⟩, fun w5 => ⟨fun _ => hp, fun _ => ⟨fun _ => ⟨fun z => absurd trivial z, fun _ => hp⟩, fun w6 => ⟨fun _ => ⟨fun z => absurd trivial z, fun _ => hp⟩, fun w7 => ⟨fun _ => ?_, fun z => absurd z (by decide)⟩⟩⟩⟩⟩⟩, fun _ => hp⟩⟩⟩⟩
      exfalso
      have : v.toInt ≠ 0 := fun z => w3 (Int32.toInt_inj.mp (by rw [z, t0]))
      exact hc ⟨⟨by omega, by omega⟩, ⟨by omega, by omega⟩, by omega, by omega⟩
    · unfold wp_M_rate
      simp only [Int32.lt_iff_toInt_lt, Int32.le_iff_toInt_le, t1, t3, tM]
      refine ⟨fun _ => hp, fun w1 => ⟨fun _ => hp, fun w2 => ⟨fun _ => hp, fun w3 => ⟨fun _ => hp, fun w4 => ⟨fun _ => hp, fun w5 => ⟨fun w6 => ?_, fun _ => hp⟩⟩⟩⟩⟩⟩
      exact absurd ⟨⟨by omega, by omega⟩, ⟨by omega, by omega⟩, by omega, by omega⟩ hc
