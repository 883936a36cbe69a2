/-! pure: the reference's words of bits, its holdings and shares beside the desk's -/
def bR (w : Int32) (Q : Nat → Prop) : Prop := ∃ m : Nat, m < 4096 ∧ w = nI m ∧ ∀ v, v < 12 → (m.testBit v = true ↔ Q v)
theorem bR_iff {w : Int32} {Q Q' : Nat → Prop} (h : bR w Q) (e : ∀ v, v < 12 → (Q v ↔ Q' v)) : bR w Q' := by
  obtain ⟨m, h1, h2, h3⟩ := h
  exact ⟨m, h1, h2, fun v hv => (h3 v hv).trans (e v hv)⟩
theorem bs_mod : ∀ d, d < 12 → ((nI d &&& 31).toBitVec.smod 32).toNat = d := by decide
theorem bR_sh {m d : Nat} (hm : m < 4096) (hd : d < 12) : ((nI m >>> (nI d &&& 31)) &&& 1) = nI (m / 2 ^ d % 2) := by
  rw [pk_shrN (by omega) _ d (bs_mod d hd), pk_andN (Nat.lt_of_le_of_lt (Nat.div_le_self _ _) (by omega)) 1 (by decide)]
theorem bR_1 {w : Int32} {Q : Nat → Prop} (h : bR w Q) {d : Nat} (hd : d < 12) (q : Q d) : ((w >>> (nI d &&& 31)) &&& 1) = 1 := by
  obtain ⟨m, h1, rfl, h3⟩ := h
  have h4 := (h3 d hd).mpr q
  rw [Nat.testBit_eq_decide_div_mod_eq, decide_eq_true_eq] at h4
  rw [bR_sh h1 hd, h4]; rfl
theorem bR_0 {w : Int32} {Q : Nat → Prop} (h : bR w Q) {d : Nat} (hd : d < 12) (q : ¬ Q d) : ((w >>> (nI d &&& 31)) &&& 1) = 0 := by
  obtain ⟨m, h1, rfl, h3⟩ := h
  have h4 := _root_.mt (h3 d hd).mp q
  rw [Nat.testBit_eq_decide_div_mod_eq, decide_eq_true_eq] at h4
  have h5 : m / 2 ^ d % 2 = 0 := (Nat.mod_two_eq_zero_or_one _).resolve_right h4
  rw [bR_sh h1 hd, h5]; rfl
theorem nI_or (a b : Nat) : nI a ||| nI b = nI (a ||| b) := by
  have h : (nI a ||| nI b).toBitVec = (nI (a ||| b)).toBitVec := by
    rw [Int32.toBitVec_or]
    show BitVec.ofNat 32 a ||| BitVec.ofNat 32 b = BitVec.ofNat 32 (a ||| b)
    apply BitVec.eq_of_toNat_eq
    rw [BitVec.toNat_or, BitVec.toNat_ofNat, BitVec.toNat_ofNat, BitVec.toNat_ofNat, Nat.or_mod_two_pow]
  exact Int32.toBitVec_inj.mp h
theorem bR_set {w : Int32} {Q : Nat → Prop} (h : bR w Q) {d : Nat} (hd : d < 12) : bR (w ||| (1 <<< (nI d &&& 31))) (fun v => Q v ∨ v = d) := by
  obtain ⟨m, h1, rfl, h3⟩ := h
  have hp : 2 ^ d ≤ 2 ^ 11 := Nat.pow_le_pow_right (by decide) (by omega)
  have e : (1 : Int32) <<< (nI d &&& 31) = nI (2 ^ d) := by
    have h5 := pk_shlN (n := 1) (nI d &&& 31) d (bs_mod d hd) (by omega)
    rwa [Nat.one_mul] at h5
  rw [e, nI_or]
  refine ⟨m ||| 2 ^ d, Nat.or_lt_two_pow (n := 12) h1 (by omega), rfl, fun v hv => ?_⟩
  rw [Nat.testBit_or, Bool.or_eq_true, h3 v hv, Nat.testBit_two_pow, decide_eq_true_eq]
  exact or_congr Iff.rfl eq_comm
theorem b4095 : ∀ v, v < 12 → Nat.testBit 4095 v = true := by decide
set_option maxHeartbeats 1000000 in
theorem sp_mTooLong {P : Nat → Int32} (hP : pOK P) {post : Int32 → Unit → Prop} (h0 : mOK (hOf P) → post 0 ()) (h1 : ¬ mOK (hOf P) → post 1 ()) : wp_M_isTooLong P post := by
  unfold wp_M_isTooLong
  refine ⟨fun w i => ∃ k : Nat, k ≤ 5 ∧ i = nI k ∧ bR w (fun v => mE (hOf P) k v), fun _ i => 5 - i.toNatClampNeg, ⟨0, by omega, rfl, 4095, by omega, rfl, fun v hv => ⟨fun _ => trivial, fun _ => b4095 v hv⟩⟩, ?_⟩
  rintro w i ⟨k, hk, rfl, hw⟩
  refine ⟨fun hc => ?_, fun hc => ?_⟩
  · have := q_ex (n := 5) (by decide) hk hc
    subst this
    obtain ⟨m, e1, rfl, e3⟩ := hw
    refine ⟨fun hz => h0 fun v hv q => ?_, fun hz => h1 fun q => hz ?_⟩
    · have hz := (nI_eq (a := m) (b := 0) (by omega) (by omega)).mp hz
      subst hz
      have h9 := (e3 v hv).mpr q
      rw [Nat.zero_testBit] at h9; cases h9
    · have h9 : m = 0 := Nat.eq_of_testBit_eq fun v => by
        rw [Nat.zero_testBit]
        by_cases hv : v < 12
        · cases z : m.testBit v with
          | false => rfl
          | true => exact absurd ((e3 v hv).mp z) (q v hv)
        · exact Nat.testBit_lt_two_pow (Nat.lt_of_lt_of_le e1 (show 2 ^ 12 ≤ 2 ^ v from Nat.pow_le_pow_right (by decide) (by omega)))
      rw [h9]; rfl
  · have hk' := q_in (n := 5) (by decide) hk hc
    refine ⟨fun w2 i => ∃ t : Nat, t ≤ 144 ∧ i = nI t ∧ bR w2 (fun v => ∃ o, o < 12 ∧ o * 12 + v < t ∧ mE (hOf P) k o ∧ 0 < hOf P o v), fun _ i => 144 - i.toNatClampNeg, ⟨0, by omega, rfl, 0, by omega, rfl, fun v hv => ⟨fun z => (by rw [Nat.zero_testBit] at z; cases z), fun ⟨o, z⟩ => absurd z.2.1 (Nat.not_lt_zero _)⟩⟩, ?_⟩
    rintro w2 i ⟨t, ht, rfl, hw2⟩
    refine ⟨fun hc => ?_, fun hc => ?_⟩
    · have := q_ex (n := 144) (by decide) ht hc
      subst this
      rw [nI_1]
      exact ⟨⟨k + 1, by omega, rfl, bR_iff hw2 fun v hv => ⟨fun ⟨o, a, _, b, c⟩ => ⟨o, a, b, c⟩, fun ⟨o, a, b, c⟩ => ⟨o, a, by omega, b, c⟩⟩⟩, q_mu hk' (by decide)⟩
    · have ht' := q_in (n := 144) (by decide) ht hc
      have ho : t / 12 < 12 := by omega
      have hd : t % 12 < 12 := by omega
      have et : t / 12 * 12 + t % 12 = t := by omega
      obtain ⟨hPe, hPl⟩ := hOf_eq hP ho hd
      rw [et] at hPe
      have e1 : nI t / 12 = nI (t / 12) := pk_div (d := 12) (by omega) (by decide) (by decide)
      have e2 : nI t - nI t / 12 * 12 = nI (t % 12) := pk_rem (d := 12) (by omega) (by decide) (by decide)
      rw [nI_clamp (by omega), hPe, nI_1, e2, e1]
      have key : ∀ v, v < 12 → ((∃ o, o < 12 ∧ o * 12 + v < t + 1 ∧ mE (hOf P) k o ∧ 0 < hOf P o v) ↔ ((∃ o, o < 12 ∧ o * 12 + v < t ∧ mE (hOf P) k o ∧ 0 < hOf P o v) ∨ (v = t % 12 ∧ mE (hOf P) k (t / 12) ∧ 0 < hOf P (t / 12) (t % 12)))) := by
        intro v hv
        constructor
        · rintro ⟨o, a, b, c, d⟩
          by_cases e : o * 12 + v < t
          · exact Or.inl ⟨o, a, e, c, d⟩
          · have e1 : o = t / 12 := by omega
            have e2 : v = t % 12 := by omega
            rw [e1] at c; rw [e1, e2] at d
            exact Or.inr ⟨e2, c, d⟩
        · rintro (⟨o, a, b, c, d⟩ | ⟨e, c, d⟩)
          · exact ⟨o, a, by omega, c, d⟩
          · exact ⟨t / 12, ho, by omega, c, by rw [e]; exact d⟩
      refine ⟨vp_in_nI ht' (by decide), fun hz => ?_, fun hz => ⟨fun hb => ?_, fun hb x hx => ?_⟩⟩
      · have hz := (nI_leI (a := hOf P (t / 12) (t % 12)) (b := 0) (by omega) (by omega)).mp hz
        exact ⟨⟨t + 1, by omega, rfl, bR_iff hw2 fun v hv => ⟨fun q => (key v hv).mpr (Or.inl q), fun q => ((key v hv).mp q).elim id (fun z => absurd z.2.2 (by omega))⟩⟩, q_mu ht' (by decide)⟩
      · have hn : ¬ mE (hOf P) k (t / 12) := fun z => hb (bR_1 hw ho z)
        exact ⟨⟨t + 1, by omega, rfl, bR_iff hw2 fun v hv => ⟨fun q => (key v hv).mpr (Or.inl q), fun q => ((key v hv).mp q).elim id (fun z => absurd z.2.1 hn)⟩⟩, q_mu ht' (by decide)⟩
      · have hn : mE (hOf P) k (t / 12) := Classical.byContradiction fun z => by
          rw [bR_0 hw ho z] at hb; exact absurd hb (by decide)
        have hz : 0 < hOf P (t / 12) (t % 12) := by
          have := _root_.mt (nI_leI (a := hOf P (t / 12) (t % 12)) (b := 0) (by omega) (by omega)).mpr hz; omega
        subst hx
        exact ⟨⟨t + 1, by omega, rfl, bR_iff (bR_set hw2 hd) fun v hv => ⟨fun q => (key v hv).mpr (q.elim Or.inl fun z => Or.inr ⟨z, hn, hz⟩), fun q => ((key v hv).mp q).elim Or.inl fun z => Or.inr z.1⟩⟩, q_mu ht' (by decide)⟩
theorem ix12c (o d : Nat) : 12 * nI o + nI d = nI (o * 12 + d) := by rw [ix12', Nat.mul_comm]
set_option maxHeartbeats 1000000 in
theorem sp_mHold {P : Nat → Int32} (hP : pOK P) {n o d q : Nat} (hn : n ≤ 12) (ho : o < n) (hd : d < n) (hq : q ≤ 10000) {mt : Int32} {post : Int32 → (Int32 × (Nat → Int32)) → Prop}
    (h1 : mS (fun a => hOf (upd P (o * 12 + d) (nI q)) a d) 12 ≤ 10000 → mOK (hOf (upd P (o * 12 + d) (nI q))) → post 1 (0, upd P (o * 12 + d) (nI q)))
    (h0 : ¬ (mS (fun a => hOf (upd P (o * 12 + d) (nI q)) a d) 12 ≤ 10000 ∧ mOK (hOf (upd P (o * 12 + d) (nI q)))) → post 0 (0, P)) : wp_M_hold (nI o) (nI d) (nI q) mt (nI n) P post := by
  have hP' := pOK_up hP (i := o * 12 + d) hq
  have hin : vp_in (nI (o * 12 + d)) 144 := vp_in_nI (by omega) (by decide)
  unfold wp_M_hold
  refine f_c1 ho hn ⟨fun z => absurd z (by decide), fun _ => f_c1 hd hn ⟨fun z => absurd z (by decide), fun _ => ⟨fun z => absurd z (nI_pos (by omega)), fun _ => ⟨fun _ => ?_, fun z => absurd (nI_le (b := 10000) hq (by decide)) z⟩⟩⟩⟩
  rw [ix12c, nI_clamp (by omega)]
  refine ⟨hin, fun x hx => ⟨hin, ?_⟩⟩
  subst hx
  rw [up_id]
  have hsz : mS (fun a => hOf (upd P (o * 12 + d) (nI q)) a d) 12 < 2 ^ 31 := by
    have : mS (fun a => hOf (upd P (o * 12 + d) (nI q)) a d) 12 ≤ mS (fun _ => 10000) 12 := mS_le fun a ha => (hOf_eq hP' ha (by omega)).2
    have e : mS (fun _ => 10000) 12 = 120000 := rfl
    omega
  refine ⟨fun t i => ∃ k : Nat, k ≤ 12 ∧ t = nI (mS (fun a => hOf (upd P (o * 12 + d) (nI q)) a d) k) ∧ i = nI k, fun _ i => 12 - i.toNatClampNeg, ⟨0, by omega, rfl, rfl⟩, ?_⟩
  rintro t i ⟨k, hk, rfl, rfl⟩
  refine ⟨fun hc => ?_, fun hc => ?_⟩
  · have := q_ex (n := 12) (by decide) hk hc
    subst this
    refine ⟨fun hc => ⟨hin, ?_⟩, fun hc => ?_⟩
    · have hc := (nI_ltI (a := 10000) (by decide) hsz).mp hc
      exact h0 (fun z => by omega)
    · have hc := _root_.mt (nI_ltI (a := 10000) (by decide) hsz).mpr hc
      exact sp_mTooLong hP' (fun z => ⟨fun w => absurd rfl w, fun _ => h1 (by omega) z⟩) (fun z => ⟨fun _ => ⟨hin, h0 fun w => z w.2⟩, fun w => absurd w (by decide)⟩)
  · have hk' := q_in (n := 12) (by decide) hk hc
    rw [ix12c]
    refine ⟨vp_in_nI (by omega) (by decide), fun x hx => ?_⟩
    rw [nI_clamp (by omega), (hOf_eq hP' hk' (by omega)).1, nI_add] at hx
    subst hx
    rw [nI_1]
    exact ⟨⟨k + 1, by omega, rfl, rfl⟩, q_mu hk' (by decide)⟩
theorem cs_hold {P U CL : Nat → Int32} {S C G : Nat → Int64} (hI : hInv P U S) {n : Nat} (hn : n ≤ 12) (a b v mt : Int32) : ∃ (r : Int32) (P' : Nat → Int32),
    (∀ post : Int32 → ((Nat → Int32) × (Nat → Int32) × (Nat → Int32) × (Nat → Int64) × (Nat → Int64) × (Nat → Int64)) → Prop, (∀ L U' S' C' G', hInv P' U' S' → post r (P', L, U', S', C', G')) → wp_D_hold a b v (nI n) P CL U S C G post) ∧ (∀ post : Int32 → (Int32 × (Nat → Int32)) → Prop, post r (0, P') → wp_M_hold a b v mt (nI n) P post) := by
  by_cases hc : ∃ o d q : Nat, o < n ∧ d < n ∧ q ≤ 10000 ∧ a = nI o ∧ b = nI d ∧ v = nI q
  · obtain ⟨o, d, q, ho, hd, hq, rfl, rfl, rfl⟩ := hc
    have hD : ∀ post : Int32 → ((Nat → Int32) × (Nat → Int32) × (Nat → Int32) × (Nat → Int64) × (Nat → Int64) × (Nat → Int64)) → Prop, wp_H_change (nI o) (nI d) (nI q) P CL U S C G (fun r u => narrow .boolean (.int r) = .int r ∧ post r (u.1, u.2.1, u.2.2.1, u.2.2.2.1, u.2.2.2.2.1, u.2.2.2.2.2)) → wp_D_hold (nI o) (nI d) (nI q) (nI n) P CL U S C G post := fun post h => by
      unfold wp_D_hold
      exact e_c1 ho hn ⟨fun z => absurd z (by decide), fun _ => e_c1 hd hn ⟨fun _ => ⟨fun z => absurd z (nI_pos (by omega)), fun _ => ⟨fun _ => h, fun z => absurd (nI_le (b := 10000) hq (by decide)) z⟩⟩, fun z => absurd z (by decide)⟩⟩
    by_cases hk : mS (fun a => hOf (upd P (o * 12 + d) (nI q)) a d) 12 ≤ 10000 ∧ mOK (hOf (upd P (o * 12 + d) (nI q)))
    · refine ⟨1, upd P (o * 12 + d) (nI q), fun post hp => hD post (sp_change hI (by omega) (by omega) hq (fun _ _ L U' S' C' G' h => ⟨by decide, hp L U' S' C' G' h⟩) (fun z => absurd hk z)), fun post hp => sp_mHold hI.1 hn ho hd hq (fun _ _ => hp) (fun z => absurd hk z)⟩
    · refine ⟨0, P, fun post hp => hD post (sp_change hI (by omega) (by omega) hq (fun z1 z2 => absurd ⟨z1, z2⟩ hk) (fun _ L => ⟨by decide, hp L U S C G hI⟩)), fun post hp => sp_mHold hI.1 hn ho hd hq (fun z1 z2 => absurd ⟨z1, z2⟩ hk) (fun _ => hp)⟩
  · refine ⟨0, P, fun post hp => ?_, fun post hp => ?_⟩
    · have hp := hp CL U S C G hI
      unfold wp_D_hold
      rcases c_or a hn with ⟨o, ho, rfl⟩ | w
      · refine e_c1 ho hn ⟨fun _ => hp, fun _ => ?_⟩
        rcases c_or b hn with ⟨d, hd, rfl⟩ | w
        · refine e_c1 hd hn ⟨fun _ => ⟨fun _ => hp, fun z1 => ⟨fun z2 => ?_, fun _ => hp⟩⟩, fun _ => hp⟩
          obtain ⟨q, hq, rfl⟩ := nI_of2 (n := 10000) (by decide) z1 z2
          exact absurd ⟨o, d, q, ho, hd, hq, rfl, rfl, rfl⟩ hc
        · exact e_c0 w ⟨fun z => absurd rfl z, fun _ => hp⟩
      · exact e_c0 w ⟨fun _ => hp, fun z => absurd rfl z⟩
    · unfold wp_M_hold
      rcases c_or a hn with ⟨o, ho, rfl⟩ | w
      · refine f_c1 ho hn ⟨fun _ => hp, fun _ => ?_⟩
        rcases c_or b hn with ⟨d, hd, rfl⟩ | w
        · refine f_c1 hd hn ⟨fun _ => hp, fun _ => ⟨fun _ => hp, fun z1 => ⟨fun z2 => ?_, fun _ => hp⟩⟩⟩
          obtain ⟨q, hq, rfl⟩ := nI_of2 (n := 10000) (by decide) z1 z2
          exact absurd ⟨o, d, q, ho, hd, hq, rfl, rfl, rfl⟩ hc
        · exact f_c0 w ⟨fun _ => hp, fun z => absurd rfl z⟩
      · exact f_c0 w ⟨fun _ => hp, fun z => absurd rfl z⟩
def dInv (h : Nat → Nat → Nat) (r c : Nat) (w : Int32) : Prop := ∃ X : Nat → Bool, bR w (fun v => X v = true) ∧ (∀ v, v < 12 → X v = true → mC h 4 v = true) ∧ (∀ v, v < 12 → mC h r v = true → X v = true) ∧ (∀ v, v < c → mC h (r + 1) v = true → X v = true)
theorem b1bit : ∀ v, v < 12 → (Nat.testBit 1 v = true ↔ (v == 0) = true) := by decide
set_option maxHeartbeats 1000000 in
theorem sp_mControlled {P : Nat → Int32} (hP : pOK P) (hok : mOK (hOf P)) {d : Nat} (hd : d < 12) {post : Int32 → Unit → Prop} (h : post (bI (mC (hOf P) 4 d)) ()) : wp_M_isControlled (nI d) P post := by
  unfold wp_M_isControlled
  refine ⟨fun w i => ∃ r : Nat, r ≤ 12 ∧ i = nI r ∧ dInv (hOf P) r 0 w, fun _ i => 12 - i.toNatClampNeg, ⟨0, by omega, rfl, fun v => v == 0, ⟨1, by omega, rfl, fun v hv => b1bit v hv⟩, fun v _ q => mC_mono (j := 0) (by omega) q, fun v _ q => q, fun v hv => absurd hv (Nat.not_lt_zero _)⟩, ?_⟩
  rintro w i ⟨r, hr, rfl, hI⟩
  refine ⟨fun hc => ?_, fun hc => ?_⟩
  · have := q_ex (n := 12) (by decide) hr hc
    subst this
    obtain ⟨X, h1, h2, h3, -⟩ := hI
    have e : X d = mC (hOf P) 4 d := by
      cases q : mC (hOf P) 4 d with
      | true => exact h3 d hd (mC_mono (by omega) q)
      | false =>
        cases w : X d with
        | false => rfl
        | true => rw [h2 d hd w] at q; cases q
    rw [← e] at h
    refine ⟨fun hz => ?_, fun hz => ?_⟩
    · cases q : X d with
      | true => exact absurd (bR_1 h1 hd q) hz
      | false => rw [q] at h; exact h
    · cases q : X d with
      | true => rw [q] at h; exact h
      | false => rw [bR_0 h1 hd (by rw [q]; decide)] at hz; exact absurd hz (by decide)
  · have hr' := q_in (n := 12) (by decide) hr hc
    refine ⟨fun w j => ∃ c : Nat, c ≤ 12 ∧ j = nI c ∧ dInv (hOf P) r c w, fun _ j => 12 - j.toNatClampNeg, ⟨0, by omega, rfl, hI⟩, ?_⟩
    clear hI
    rintro w j ⟨c, hcl, rfl, hI⟩
    refine ⟨fun hc => ?_, fun hc => ?_⟩
    · have := q_ex (n := 12) (by decide) hcl hc
      subst this
      obtain ⟨X, h1, h2, h3, h4⟩ := hI
      rw [nI_1]
      exact ⟨⟨r + 1, by omega, rfl, X, h1, h2, h4, fun v hv => absurd hv (Nat.not_lt_zero _)⟩, q_mu hr' (by decide)⟩
    · have hc' := q_in (n := 12) (by decide) hcl hc
      obtain ⟨X, h1, h2, h3, h4⟩ := hI
      refine ⟨fun t i => ∃ k : Nat, k ≤ 12 ∧ t = nI (mS (fun o => if X o then hOf P o c else 0) k) ∧ i = nI k, fun _ i => 12 - i.toNatClampNeg, ⟨0, by omega, rfl, rfl⟩, ?_⟩
      rintro t i ⟨k, hk, rfl, rfl⟩
      refine ⟨fun hc => ?_, fun hc => ?_⟩
      · have := q_ex (n := 12) (by decide) hk hc
        subst this
        have hsz : mS (fun o => if X o then hOf P o c else 0) 12 < 2 ^ 31 := by
          have : mS (fun o => if X o then hOf P o c else 0) 12 ≤ mS (fun _ => 10000) 12 := mS_le fun a ha => by
            have := (hOf_eq hP ha hc').2
            split <;> omega
          have e : mS (fun _ => 10000) 12 = 120000 := rfl
          omega
        rw [nI_1]
        refine ⟨fun hz => ?_, fun hz x hx => ?_⟩
        · have hz := (nI_leI (b := 5000) hsz (by decide)).mp hz
          refine ⟨⟨c + 1, by omega, rfl, X, h1, h2, h3, fun v hv q => ?_⟩, q_mu hc' (by decide)⟩
          by_cases e : v = c
          · subst e
            simp only [mC, Bool.or_eq_true, decide_eq_true_eq] at q
            rcases q with q | q
            · exact h3 v hc' q
            · have : mS (fun o => if mC (hOf P) r o then hOf P o v else 0) 12 ≤ mS (fun o => if X o then hOf P o v else 0) 12 := mS_le fun o ho => by
                by_cases z : mC (hOf P) r o = true
                · simp [z, h3 o ho z]
                · simp [z]
              omega
          · exact h4 v (by omega) q
        · have hz := _root_.mt (nI_leI (b := 5000) hsz (by decide)).mpr hz
          subst hx
          refine ⟨⟨c + 1, by omega, rfl, fun v => X v || v == c, bR_iff (bR_set h1 hc') fun v hv => by simp, fun v hv q => ?_, fun v hv q => by simp [h3 v hv q], fun v hv q => ?_⟩, q_mu hc' (by decide)⟩
          · simp only [Bool.or_eq_true, beq_iff_eq] at q
            rcases q with q | q
            · exact h2 v hv q
            · subst q; exact mC_closed hok h2 hv (by omega)
          · by_cases e : v = c
            · simp [e]
            · simp [h4 v (by omega) q]
      · have hk' := q_in (n := 12) (by decide) hk hc
        rw [ix12c]
        refine ⟨vp_in_nI (by omega) (by decide), fun x hx => ?_⟩
        rw [nI_clamp (by omega), (hOf_eq hP hk' hc').1] at hx
        rw [nI_1]
        refine ⟨⟨k + 1, by omega, ?_, rfl⟩, q_mu hk' (by decide)⟩
        rw [hx]
        cases z : X k with
        | true =>
          rw [bR_1 h1 hk' z, show (1 : Int32) = nI 1 from rfl, pk_mul, nI_add, Nat.one_mul]
          simp [mS, z]
        | false =>
          rw [bR_0 h1 hk' (by rw [z]; decide), Int32.zero_mul, Int32.add_zero]
          simp [mS, z]
theorem cs_controlled {P U : Nat → Int32} {S : Nat → Int64} (hI : hInv P U S) {n : Nat} (hn : n ≤ 12) (c mt : Int32) : ∃ r : Int32, (∀ post : Int32 → Unit → Prop, post r () → wp_D_controlled c (nI n) U post) ∧ ∀ post : Int32 → Int32 → Prop, post r 0 → wp_M_controlled c mt (nI n) P post := by
  obtain ⟨hP, hcol, hok, hU, hS⟩ := hI
  rcases c_or c hn with ⟨k, hk, rfl⟩ | w
  · refine ⟨bI (mC (hOf P) 4 k), fun post hp => ?_, fun post hp => ?_⟩
    · unfold wp_D_controlled wp_H_isControlled
      refine e_c1 hk hn ⟨fun _ => ⟨vp_in_nI (by omega) (by decide), ?_⟩, fun z => absurd z (by decide)⟩
      rw [nI_clamp (by omega), hU k (by omega)]
      cases q : mC (hOf P) 4 k with
      | true => rw [q] at hp; exact ⟨by decide, fun z => absurd z (by decide), fun _ => hp⟩
      | false => rw [q] at hp; exact ⟨by decide, fun _ => hp, fun z => absurd rfl z⟩
    · unfold wp_M_controlled
      refine f_c1 hk hn ⟨fun _ => sp_mControlled hP hok (by omega) ?_, fun z => absurd z (by decide)⟩
      cases q : mC (hOf P) 4 k with
      | true => rw [q] at hp; exact ⟨fun z => absurd z (by decide), fun _ => hp⟩
      | false => rw [q] at hp; exact ⟨fun _ => hp, fun z => absurd rfl z⟩
  · refine ⟨-1, fun post hp => ?_, fun post hp => ?_⟩
    · unfold wp_D_controlled
      exact e_c0 w ⟨fun z => absurd rfl z, fun _ => hp⟩
    · unfold wp_M_controlled
      exact f_c0 w ⟨fun z => absurd rfl z, fun _ => hp⟩
theorem mW_1 (h : Nat → Nat → Nat) (v : Nat) : mW h 1 v = h 0 v := by
  simp [mW, mS]
theorem ld_h {P : Nat → Int32} (hP : pOK P) {o v : Nat} (ho : o < 12) (hv : v < 12) : Int32.toInt64 (P (Int32.toNatClampNeg (12 * nI o + nI v))) = lN (hOf P o v) := by
  obtain ⟨e, l⟩ := hOf_eq hP ho hv
  rw [ix12c, nI_clamp (by omega), e, nI_l (by omega)]
theorem ld_0 {P : Nat → Int32} (hP : pOK P) {v : Nat} (hv : v < 12) : Int32.toInt64 (P (nI v).toNatClampNeg) = lN (mW (hOf P) 1 v) := by
  obtain ⟨e, l⟩ := hOf_eq hP (o := 0) (by omega) hv
  rw [Nat.zero_mul, Nat.zero_add] at e
  rw [nI_clamp (by omega), e, nI_l (by omega), mW_1]
theorem vin144 {o v : Nat} (ho : o < 12) (hv : v < 12) : vp_in (12 * nI o + nI v) 144 := by
  rw [ix12c]; exact vp_in_nI (by omega) (by decide)
theorem w_start {h : Nat → Nat → Nat} (hok : mOK h) {k : Nat} (hk : 0 < k) (v : Nat) : (0 : Int64) = lN (mS (fun o => mW h k o * h o v) 1) := by
  have e : mS (fun o => mW h k o * h o v) 1 = 0 := by
    show 0 + mW h k 0 * h 0 v = 0
    rw [mW_0 hok hk, Nat.zero_mul]
  rw [e]; rfl
set_option maxHeartbeats 2000000 in
theorem sp_mWeight {P : Nat → Int32} (hP : pOK P) (hok : mOK (hOf P)) {j d : Nat} (hj : 1 ≤ j) (hj4 : j ≤ 4) (hd : d < 12) {post : Int64 → Unit → Prop} (h : post (lN (mW (hOf P) j d)) ()) : wp_M_weight (nI j) (nI d) P post := by
  unfold wp_M_weight
  refine ⟨fun h1 => ?_, fun h1 => ?_⟩
  · have h1 : j ≠ 1 := fun z => h1 (by rw [z]; rfl)
    obtain ⟨a, rfl⟩ : ∃ a, j = a + 1 := ⟨j - 1, by omega⟩
    refine ⟨fun t i => ∃ k : Nat, 1 ≤ k ∧ k ≤ 12 ∧ t = lN (mS (fun o => mW (hOf P) a o * hOf P o d) k) ∧ i = nI k, fun _ i => 12 - i.toNatClampNeg, ⟨1, by omega, by omega, w_start hok (by omega) d, rfl⟩, ?_⟩
    rintro t i ⟨k, hk1, hk, rfl, rfl⟩
    refine ⟨fun hc => ?_, fun hc => ?_⟩
    · have := q_ex (n := 12) (by decide) hk hc
      subst this
      exact h
    · have hk' := q_in (n := 12) (by decide) hk hc
      rw [nI_1]
      have fin : ∀ x : Int64, x = lN (mW (hOf P) a k) → vp_in (12 * nI k + nI d) 144 ∧ ∀ y : Int64, y = lN (mS (fun o => mW (hOf P) a o * hOf P o d) k) + x * Int32.toInt64 (P (Int32.toNatClampNeg (12 * nI k + nI d))) → (∃ k' : Nat, 1 ≤ k' ∧ k' ≤ 12 ∧ y = lN (mS (fun o => mW (hOf P) a o * hOf P o d) k') ∧ nI (k + 1) = nI k') ∧ 12 - (nI (k + 1)).toNatClampNeg < 12 - (nI k).toNatClampNeg := by
        intro x hx
        refine ⟨vin144 hk' hd, fun y hy => ⟨⟨k + 1, by omega, by omega, ?_, rfl⟩, q_mu hk' (by decide)⟩⟩
        rw [hy, hx, ld_h hP hk' hd, lN_mul, lN_add]; rfl
      refine ⟨fun h2 => ?_, fun h2 => ?_⟩
      · have h2 : a + 1 ≠ 2 := fun z => h2 (by rw [z]; rfl)
        obtain ⟨b, rfl⟩ : ∃ b, a = b + 1 := ⟨a - 1, by omega⟩
        refine ⟨fun t i => ∃ l : Nat, 1 ≤ l ∧ l ≤ 12 ∧ t = lN (mS (fun o => mW (hOf P) b o * hOf P o k) l) ∧ i = nI l, fun _ i => 12 - i.toNatClampNeg, ⟨1, by omega, by omega, w_start hok (by omega) k, rfl⟩, ?_⟩
        rintro t i ⟨l, hl1, hl, rfl, rfl⟩
        refine ⟨fun hc => ?_, fun hc => ?_⟩
        · have := q_ex (n := 12) (by decide) hl hc
          subst this
          exact fin _ rfl
        · have hl' := q_in (n := 12) (by decide) hl hc
          rw [nI_1]
          have fin2 : ∀ x : Int64, x = lN (mW (hOf P) b l) → vp_in (12 * nI l + nI k) 144 ∧ ∀ y : Int64, y = lN (mS (fun o => mW (hOf P) b o * hOf P o k) l) + x * Int32.toInt64 (P (Int32.toNatClampNeg (12 * nI l + nI k))) → (∃ k' : Nat, 1 ≤ k' ∧ k' ≤ 12 ∧ y = lN (mS (fun o => mW (hOf P) b o * hOf P o k) k') ∧ nI (l + 1) = nI k') ∧ 12 - (nI (l + 1)).toNatClampNeg < 12 - (nI l).toNatClampNeg := by
            intro x hx
            refine ⟨vin144 hl' hk', fun y hy => ⟨⟨l + 1, by omega, by omega, ?_, rfl⟩, q_mu hl' (by decide)⟩⟩
            rw [hy, hx, ld_h hP hl' hk', lN_mul, lN_add]; rfl
          refine ⟨fun h3 => ?_, fun h3 => ?_⟩
          · have h3 : b + 1 + 1 ≠ 3 := fun z => h3 (by rw [z]; rfl)
            have : b = 2 := by omega
            subst this
            refine ⟨fun t i => ∃ q : Nat, 1 ≤ q ∧ q ≤ 12 ∧ t = lN (mS (fun o => mW (hOf P) 1 o * hOf P o l) q) ∧ i = nI q, fun _ i => 12 - i.toNatClampNeg, ⟨1, by omega, by omega, w_start hok (by omega) l, rfl⟩, ?_⟩
            rintro t i ⟨q, hq1, hq, rfl, rfl⟩
            refine ⟨fun hc => ?_, fun hc => ?_⟩
            · have := q_ex (n := 12) (by decide) hq hc
              subst this
              exact fin2 _ rfl
            · have hq' := q_in (n := 12) (by decide) hq hc
              rw [nI_1]
              refine ⟨vp_in_nI (by omega) (by decide), vin144 hq' hl', fun y hy => ⟨⟨q + 1, by omega, by omega, ?_, rfl⟩, q_mu hq' (by decide)⟩⟩
              rw [hy, ld_0 hP hq', ld_h hP hq' hl', lN_mul, lN_add]; rfl
          · have : b = 1 := by
              have := (nI_eq (a := b + 1 + 1) (b := 3) (by omega) (by omega)).mp h3; omega
            subst this
            exact ⟨vp_in_nI (by omega) (by decide), fun x hx => fin2 x (by rw [hx, ld_0 hP hl'])⟩
      · have : a = 1 := by
          have := (nI_eq (a := a + 1) (b := 2) (by omega) (by omega)).mp h2; omega
        subst this
        exact ⟨vp_in_nI (by omega) (by decide), fun x hx => fin x (by rw [hx, ld_0 hP hk'])⟩
  · have := (nI_eq (a := j) (b := 1) (by omega) (by omega)).mp h1
    subst this
    refine ⟨vp_in_nI (by omega) (by decide), ?_⟩
    rw [ld_0 hP hd]
    exact h
theorem sp_mEffective {P : Nat → Int32} (hP : pOK P) (hok : mOK (hOf P)) {n d : Nat} (hn : n ≤ 12) (hd : d < n) {mt : Int32} {post : Int64 → Int32 → Prop} (h : post (lN (shN (hOf P) 4 d)) 0) : wp_M_effective (nI d) mt (nI n) P post := by
  unfold wp_M_effective
  refine f_c1 hd hn ⟨fun _ => ⟨fun h0 => ?_, fun h0 => ?_⟩, fun z => absurd z (by decide)⟩
  · have h0 : d ≠ 0 := fun z => h0 (by rw [z]; rfl)
    refine sp_mWeight (j := 1) hP hok (by omega) (by omega) (by omega) (sp_mWeight (j := 2) hP hok (by omega) (by omega) (by omega) (sp_mWeight (j := 3) hP hok (by omega) (by omega) (by omega) (sp_mWeight (j := 4) hP hok (by omega) (by omega) (by omega) ?_)))
    rw [show (1000000000000 : Int64) = lN 1000000000000 from rfl, show (100000000 : Int64) = lN 100000000 from rfl, show (10000 : Int64) = lN 10000 from rfl, lN_mul, lN_mul, lN_mul, lN_add, lN_add, lN_add]
    have e : mW (hOf P) 1 d * 1000000000000 + mW (hOf P) 2 d * 100000000 + mW (hOf P) 3 d * 10000 + mW (hOf P) 4 d = shN (hOf P) 4 d := by
      unfold shN
      rw [if_neg h0]
      show _ = 0 + 1 * (10000 * (10000 * (10000 * (10000 * 0 + mW (hOf P) 1 d) + mW (hOf P) 2 d) + mW (hOf P) 3 d) + mW (hOf P) 4 d)
      omega
    rw [e]
    exact h
  · have h0 := (nI_eq (a := d) (b := 0) (by omega) (by omega)).mp h0
    subst h0
    have e : shN (hOf P) 4 0 = 10000000000000000 := by
      unfold shN
      rw [mT_0 hok]; rfl
    rw [e] at h
    exact h
theorem cs_effective {P U : Nat → Int32} {S : Nat → Int64} (hI : hInv P U S) {n : Nat} (hn : n ≤ 12) (c mt : Int32) : ∃ r : Int64, (∀ post : Int64 → Unit → Prop, post r () → wp_D_effective c (nI n) S post) ∧ ∀ post : Int64 → Int32 → Prop, post r 0 → wp_M_effective c mt (nI n) P post := by
  obtain ⟨hP, hcol, hok, hU, hS⟩ := hI
  rcases c_or c hn with ⟨k, hk, rfl⟩ | w
  · refine ⟨lN (shN (hOf P) 4 k), fun post hp => ?_, fun post hp => sp_mEffective hP hok hn hk hp⟩
    unfold wp_D_effective wp_H_headShare
    refine e_c1 hk hn ⟨fun _ => ⟨vp_in_nI (by omega) (by decide), ?_⟩, fun z => absurd z (by decide)⟩
    rw [nI_clamp (by omega), hS k (by omega)]
    exact hp
  · refine ⟨-1, fun post hp => ?_, fun post hp => ?_⟩
    · unfold wp_D_effective
      exact e_c0 w ⟨fun z => absurd rfl z, fun _ => hp⟩
    · unfold wp_M_effective
      exact f_c0 w ⟨fun z => absurd rfl z, fun _ => hp⟩
