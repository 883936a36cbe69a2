/-! pure: the calls that read a consolidation, beside the reference's -/
theorem cs_group {na : Nat} (hna : na ≤ 12) {d : Bool} {G St : Nat → Int64} (h : d = true → ∀ a, a < 12 → G a = sL (fun c => St (288 + 12 * c + a)) 12) (a tw : Int32) : (∃ v : Int64, (∀ (post : Int64 → Unit → Prop) (thr : Prop), post v () → wp_D_group a (nI na) (bI d) G post thr) ∧ ∀ post : Int64 → Int32 → Prop, post v 0 → wp_M_group a tw (nI na) (bI d) St post) ∨ ((∀ (post : Int64 → Unit → Prop) (thr : Prop), thr → wp_D_group a (nI na) (bI d) G post thr) ∧ ∀ post : Int64 → Int32 → Prop, post 0 1 → wp_M_group a tw (nI na) (bI d) St post) := by
  have fin : ∀ post : Int64 → Int32 → Prop, post 0 1 → (∃ (I29 : Int64 → Int32 → Prop) (μ29 : Int64 → Int32 → Nat), I29 0 0 ∧ ∀ (l2_29 : Int64) (l4_29 : Int32), I29 l2_29 l4_29 → ((12 ≤ l4_29 → post l2_29 1) ∧ (¬ 12 ≤ l4_29 → ((¬ (1 : Int32) = 0 → post l2_29 1) ∧ ((1 : Int32) = 0 → (vp_in ((288 + (12 * l4_29)) + a) 432 ∧ (∀ x61 : Int64, x61 = (l2_29 + (St (Int32.toNatClampNeg ((288 + (12 * l4_29)) + a)))) → I29 x61 (l4_29 + 1) ∧ μ29 x61 (l4_29 + 1) < μ29 l2_29 l4_29))))))) := fun post hp =>
    ⟨fun t _ => t = 0, fun _ _ => 0, rfl, fun t i ht => ⟨fun _ => by rw [ht]; exact hp, fun _ => ⟨fun _ => by rw [ht]; exact hp, fun z => absurd z (by decide)⟩⟩⟩
  cases d with
  | false =>
    refine Or.inr ⟨fun post thr ht => ?_, fun post hp => ?_⟩
    · unfold wp_D_group wp_R_isMade
      exact ⟨by decide, fun _ => ht, fun z => absurd rfl z⟩
    · unfold wp_M_group
      exact ⟨fun _ => fin post hp, fun z => absurd rfl z⟩
  | true =>
    rcases c_or a hna with ⟨k, hk, rfl⟩ | w
    · refine Or.inl ⟨sL (fun c => St (288 + 12 * c + k)) 12, fun post thr hp => ?_, fun post hp => ?_⟩
      · unfold wp_D_group wp_R_isMade wp_R_groupAmount
        refine ⟨by decide, fun z => absurd z (by decide), fun _ => e_a1 hk hna ⟨fun _ => ⟨vp_in_nI (by omega) (by decide), ?_⟩, fun z => absurd z (by decide)⟩⟩
        rw [nI_clamp (by omega), h rfl k (by omega)]
        exact hp
      · unfold wp_M_group
        refine ⟨fun z => absurd z (by decide), fun _ => f_a1 hk hna ⟨fun z => absurd z (by decide), fun _ => ?_⟩⟩
        refine ⟨fun t i => ∃ c : Nat, c ≤ 12 ∧ t = sL (fun c => St (288 + 12 * c + k)) c ∧ i = nI c, fun _ i => 12 - i.toNatClampNeg, ⟨0, by omega, rfl, rfl⟩, ?_⟩
        rintro t i ⟨c, hc, rfl, rfl⟩
        refine ⟨fun hx => ?_, fun hx => ⟨fun z => absurd rfl z, fun _ => ?_⟩⟩
        · have hce := q_ex (n := 12) (by decide) hc hx
          rw [hce]; exact hp
        · have hc' := q_in (n := 12) (by decide) hc hx
          rw [show (288 : Int32) + 12 * nI c + nI k = nI (288 + 12 * c + k) by rw [show (288 : Int32) = nI 288 from rfl, show (12 : Int32) = nI 12 from rfl, pk_mul, nI_add, nI_add], nI_clamp (n := 288 + 12 * c + k) (by omega), nI_1]
          exact ⟨vp_in_nI (by omega) (by decide), fun x hx => ⟨⟨c + 1, by omega, hx, rfl⟩, q_mu hc' (by decide)⟩⟩
    · refine Or.inr ⟨fun post thr ht => ?_, fun post hp => ?_⟩
      · unfold wp_D_group wp_R_isMade
        exact ⟨by decide, fun z => absurd z (by decide), fun _ => e_a0 w ⟨fun z => absurd rfl z, fun _ => ht⟩⟩
      · unfold wp_M_group
        exact ⟨fun z => absurd z (by decide), fun _ => f_a0 w ⟨fun _ => fin post hp, fun z => absurd rfl z⟩⟩
theorem cs_minority {n : Nat} (hn : n ≤ 12) {d : Bool} {O1 O2 : Nat → Int64} (h : d = true → ∀ c, c < 12 → O1 c = O2 c) (c tw : Int32) : (∃ v : Int64, (∀ (post : Int64 → Unit → Prop) (thr : Prop), post v () → wp_D_minority c (nI n) (bI d) O1 post thr) ∧ ∀ post : Int64 → Int32 → Prop, post v 0 → wp_M_minority c tw (nI n) (bI d) O2 post) ∨ ((∀ (post : Int64 → Unit → Prop) (thr : Prop), thr → wp_D_minority c (nI n) (bI d) O1 post thr) ∧ ∀ post : Int64 → Int32 → Prop, post 0 1 → wp_M_minority c tw (nI n) (bI d) O2 post) := by
  cases d with
  | false =>
    refine Or.inr ⟨fun post thr ht => ?_, fun post hp => ?_⟩
    · unfold wp_D_minority wp_R_isMade
      exact ⟨by decide, fun _ => ht, fun z => absurd rfl z⟩
    · unfold wp_M_minority
      exact ⟨fun _ => ⟨fun z => absurd rfl z, fun _ => hp⟩, fun z => absurd rfl z⟩
  | true =>
    rcases c_or c hn with ⟨k, hk, rfl⟩ | w
    · refine Or.inl ⟨O2 k, fun post thr hp => ?_, fun post hp => ?_⟩
      · unfold wp_D_minority wp_R_isMade wp_R_outsidersCredit
        refine ⟨by decide, fun z => absurd z (by decide), fun _ => e_c1 hk hn ⟨fun _ => ⟨vp_in_nI (by omega) (by decide), ?_⟩, fun z => absurd z (by decide)⟩⟩
        rw [nI_clamp (by omega), h rfl k (by omega)]
        exact hp
      · unfold wp_M_minority
        refine ⟨fun z => absurd z (by decide), fun _ => f_c1 hk hn ⟨fun z => absurd z (by decide), fun _ => ⟨fun _ => ?_, fun z => absurd z (by decide)⟩⟩⟩
        rw [nI_clamp (by omega)]
        exact ⟨vp_in_nI (by omega) (by decide), hp⟩
    · refine Or.inr ⟨fun post thr ht => ?_, fun post hp => ?_⟩
      · unfold wp_D_minority wp_R_isMade
        exact ⟨by decide, fun z => absurd z (by decide), fun _ => e_c0 w ⟨fun z => absurd rfl z, fun _ => ht⟩⟩
      · unfold wp_M_minority
        exact ⟨fun z => absurd z (by decide), fun _ => f_c0 w ⟨fun _ => ⟨fun z => absurd rfl z, fun _ => hp⟩, fun z => absurd rfl z⟩⟩
theorem cs_openItems {d : Bool} {o1 o2 : Int32} (h1 : d = true → o1 = o2) (h0 : d = false → o1 = 0) (tw : Int32) : ∃ r : Int32, (∀ post : Int32 → Unit → Prop, post r () → wp_D_openItems o1 post) ∧ ∀ post : Int32 → Int32 → Prop, post r 0 → wp_M_openItems tw (bI d) o2 post := by
  refine ⟨o1, fun post hp => hp, fun post hp => ?_⟩
  unfold wp_M_openItems
  cases d with
  | false => rw [h0 rfl] at hp; exact ⟨fun _ => hp, fun z => absurd rfl z⟩
  | true => rw [h1 rfl] at hp; exact ⟨fun z => absurd z (by decide), fun _ => hp⟩
theorem cs_trace {n na : Nat} (hn : n ≤ 12) (hna : na ≤ 12) {d : Bool} {S1 S2 : Nat → Int64} (h : d = true → ∀ i, i < 432 → S1 i = S2 i) (a c s tw : Int32) : (∃ v : Int64, (∀ (post : Int64 → Unit → Prop) (thr : Prop), post v () → wp_D_trace a c s (nI n) (nI na) (bI d) S1 post thr) ∧ ∀ post : Int64 → Int32 → Prop, post v 0 → wp_M_trace a c s tw (nI n) (nI na) (bI d) S2 post) ∨ ((∀ (post : Int64 → Unit → Prop) (thr : Prop), thr → wp_D_trace a c s (nI n) (nI na) (bI d) S1 post thr) ∧ ∀ post : Int64 → Int32 → Prop, post 0 1 → wp_M_trace a c s tw (nI n) (nI na) (bI d) S2 post) := by
  cases d with
  | false =>
    refine Or.inr ⟨fun post thr ht => ?_, fun post hp => ?_⟩
    · unfold wp_D_trace wp_R_isMade
      exact ⟨by decide, fun _ => ht, fun z => absurd rfl z⟩
    · unfold wp_M_trace
      exact ⟨fun _ => ⟨fun z => absurd rfl z, fun _ => hp⟩, fun z => absurd rfl z⟩
  | true =>
    rcases c_or a hna with ⟨k, hk, rfl⟩ | w
    · rcases c_or c hn with ⟨b, hb, rfl⟩ | w
      · rcases pk_ix s (n := 3) (by omega) with z | z | ⟨q, hq, rfl⟩
        · refine Or.inr ⟨fun post thr ht => ?_, fun post hp => ?_⟩
          · unfold wp_D_trace wp_R_isMade
            exact ⟨by decide, fun z => absurd z (by decide), fun _ => e_a1 hk hna ⟨fun z => absurd z (by decide), fun _ => e_c1 hb hn ⟨fun _ => ⟨fun _ => ht, fun y => absurd z y⟩, fun z => absurd z (by decide)⟩⟩⟩
          · unfold wp_M_trace
            exact ⟨fun z => absurd z (by decide), fun _ => f_a1 hk hna ⟨fun z => absurd z (by decide), fun _ => f_c1 hb hn ⟨fun z => absurd z (by decide), fun _ => ⟨fun _ => ⟨fun y => absurd rfl y, fun _ => hp⟩, fun y => absurd z y⟩⟩⟩⟩
        · have z2 : ¬ s < 3 := fun y => by
            rw [Int32.lt_iff_toInt_lt] at y
            rw [Int32.le_iff_toInt_le] at z
            have : (nI 3).toInt = (3 : Int32).toInt := rfl
            omega
          refine Or.inr ⟨fun post thr ht => ?_, fun post hp => ?_⟩
          · unfold wp_D_trace wp_R_isMade
            exact ⟨by decide, fun z => absurd z (by decide), fun _ => e_a1 hk hna ⟨fun z => absurd z (by decide), fun _ => e_c1 hb hn ⟨fun _ => ⟨fun _ => ht, fun y => ⟨fun y => absurd y z2, fun _ => ht⟩⟩, fun z => absurd z (by decide)⟩⟩⟩
          · unfold wp_M_trace
            exact ⟨fun z => absurd z (by decide), fun _ => f_a1 hk hna ⟨fun z => absurd z (by decide), fun _ => f_c1 hb hn ⟨fun z => absurd z (by decide), fun _ => ⟨fun _ => ⟨fun y => absurd rfl y, fun _ => hp⟩, fun y => ⟨fun _ => ⟨fun y => absurd rfl y, fun _ => hp⟩, fun y => absurd z y⟩⟩⟩⟩⟩
        · have q1 : nI q < (3 : Int32) := nI_lt (b := 3) hq (by decide)
          have q2 : ¬ (3 : Int32) ≤ nI q := nI_ge (b := 3) hq (by decide)
          refine Or.inl ⟨S2 (144 * q + 12 * b + k), fun post thr hp => ?_, fun post hp => ?_⟩
          · unfold wp_D_trace wp_R_isMade wp_R_stepAmount wp_R_stepPlace
            refine ⟨by decide, fun z => absurd z (by decide), fun _ => e_a1 hk hna ⟨fun z => absurd z (by decide), fun _ => e_c1 hb hn ⟨fun _ => ⟨fun y => absurd y (nI_pos (by omega)), fun y => ⟨fun _ => ?_, fun y => absurd q1 y⟩⟩, fun z => absurd z (by decide)⟩⟩⟩
            rw [show (((nI q * 12) + nI b) * 12) + nI k = nI (144 * q + 12 * b + k) by rw [ix12, ix12]; congr 1; omega]
            dsimp only
            rw [nI_clamp (n := 144 * q + 12 * b + k) (by omega), h rfl _ (by omega)]
            exact ⟨vp_in_nI (by omega) (by decide), hp⟩
          · unfold wp_M_trace
            refine ⟨fun z => absurd z (by decide), fun _ => f_a1 hk hna ⟨fun z => absurd z (by decide), fun _ => f_c1 hb hn ⟨fun z => absurd z (by decide), fun _ => ⟨fun y => absurd y (nI_pos (by omega)), fun y => ⟨fun y => absurd y q2, fun _ => ⟨fun _ => ?_, fun y => absurd y (by decide)⟩⟩⟩⟩⟩⟩
            rw [show ((144 * nI q) + (12 * nI b)) + nI k = nI (144 * q + 12 * b + k) by rw [show (144 : Int32) = nI 144 from rfl, show (12 : Int32) = nI 12 from rfl, pk_mul, pk_mul, nI_add, nI_add], nI_clamp (n := 144 * q + 12 * b + k) (by omega)]
            exact ⟨vp_in_nI (by omega) (by decide), hp⟩
      · refine Or.inr ⟨fun post thr ht => ?_, fun post hp => ?_⟩
        · unfold wp_D_trace wp_R_isMade
          exact ⟨by decide, fun z => absurd z (by decide), fun _ => e_a1 hk hna ⟨fun z => absurd z (by decide), fun _ => e_c0 w ⟨fun z => absurd rfl z, fun _ => ht⟩⟩⟩
        · unfold wp_M_trace
          exact ⟨fun z => absurd z (by decide), fun _ => f_a1 hk hna ⟨fun z => absurd z (by decide), fun _ => f_c0 w ⟨fun _ => ⟨fun z => absurd rfl z, fun _ => hp⟩, fun z => absurd rfl z⟩⟩⟩
    · refine Or.inr ⟨fun post thr ht => ?_, fun post hp => ?_⟩
      · unfold wp_D_trace wp_R_isMade
        exact ⟨by decide, fun z => absurd z (by decide), fun _ => e_a0 w ⟨fun _ => ht, fun z => absurd rfl z⟩⟩
      · unfold wp_M_trace
        exact ⟨fun z => absurd z (by decide), fun _ => f_a0 w ⟨fun _ => ⟨fun z => absurd rfl z, fun _ => hp⟩, fun z => absurd rfl z⟩⟩
