/-- what the reference does once nothing hinders -/
def wp_Mc (r103 v_thrown_7 : Int32) (v_companies : Int32) (v_accounts : Int32)   (v_currency : (Nat → Int32)) (v_sort : (Nat → Int32)) (v_closing : (Nat → Int32)) (v_average : (Nat → Int32)) (v_held : (Nat → Int32)) (v_sum : (Nat → Int64)) (v_told : (Nat → Int64)) (v_left : (Nat → Int64)) (v_step : (Nat → Int64)) (v_outside : (Nat → Int64)) (v_item : (Nat → Int64)) (post : Int32 → (Int32 × Int32 × Int32 × (Nat → Int64) × (Nat → Int64) × (Nat → Int64) × (Nat → Int64)) → Prop) : Prop := (∃ (I122 : Int32 → (Nat → Int64) → Prop) (μ122 : Int32 → (Nat → Int64) → Nat), I122 0 v_left ∧ ∀ (l2_122 : Int32) (v_left_122 : (Nat → Int64)), I122 l2_122 v_left_122 → ((1872 ≤ l2_122 → (∃ (I144 : Int32 → (Nat → Int64) → (Nat → Int64) → Prop) (μ144 : Int32 → (Nat → Int64) → (Nat → Int64) → Nat), I144 0 v_left_122 v_outside ∧ ∀ (l2_144 : Int32) (v_left_144 : (Nat → Int64)) (v_outside_144 : (Nat → Int64)), I144 l2_144 v_left_144 v_outside_144 → ((v_companies ≤ l2_144 → (wp_M_mark 0 v_left_144 v_step (fun (u181 : (Nat → Int64)) => (wp_M_eliminate v_companies v_accounts 0 v_held v_left_144 v_item (fun (u190 : Int32 × (Nat → Int64) × (Nat → Int64)) => (wp_M_mark 1 u190.2.1 u181 (fun (u195 : (Nat → Int64)) => (∃ (I200 : Int32 → Int32 → (Nat → Int64) → (Nat → Int64) → Prop) (μ200 : Int32 → Int32 → (Nat → Int64) → (Nat → Int64) → Nat), I200 1 v_thrown_7 u190.2.1 v_outside_144 ∧ ∀ (l2_200 : Int32) (v_thrown_200 : Int32) (v_left_200 : (Nat → Int64)) (v_outside_200 : (Nat → Int64)), I200 l2_200 v_thrown_200 v_left_200 v_outside_200 → ((v_companies ≤ l2_200 → (wp_M_mark 2 v_left_200 u195 (fun (u230 : (Nat → Int64)) => post 0 (v_thrown_200, 1, u190.1, v_left_200, u230, v_outside_200, u190.2.2)))) ∧ (¬ v_companies ≤ l2_200 → (wp_M_isControlled l2_200 v_held (fun (r210 : Int32) (u210 : Unit) => ((r210 = 0 → I200 (l2_200 + 1) v_thrown_200 v_left_200 v_outside_200 ∧ μ200 (l2_200 + 1) v_thrown_200 v_left_200 v_outside_200 < μ200 l2_200 v_thrown_200 v_left_200 v_outside_200) ∧ (¬ r210 = 0 → (wp_M_share l2_200 r103 v_thrown_200 v_companies v_accounts v_sort v_held v_left_200 u195 v_outside_200 (fun (u219 : Int32 × (Nat → Int64) × (Nat → Int64)) => I200 (l2_200 + 1) u219.1 u219.2.1 u219.2.2 ∧ μ200 (l2_200 + 1) u219.1 u219.2.1 u219.2.2 < μ200 l2_200 v_thrown_200 v_left_200 v_outside_200)))))))))))))))) ∧ (¬ v_companies ≤ l2_144 → (vp_in l2_144 12 ∧ (wp_M_isControlled l2_144 v_held (fun (r161 : Int32) (u161 : Unit) => ((r161 = 0 → I144 (l2_144 + 1) v_left_144 (vp_updL v_outside_144 l2_144.toNatClampNeg 0) ∧ μ144 (l2_144 + 1) v_left_144 (vp_updL v_outside_144 l2_144.toNatClampNeg 0) < μ144 l2_144 v_left_144 v_outside_144) ∧ (¬ r161 = 0 → (wp_M_translate l2_144 r103 v_accounts v_currency v_sort v_closing v_average v_sum v_told v_left_144 (fun (u170 : (Nat → Int64)) => I144 (l2_144 + 1) u170 (vp_updL v_outside_144 l2_144.toNatClampNeg 0) ∧ μ144 (l2_144 + 1) u170 (vp_updL v_outside_144 l2_144.toNatClampNeg 0) < μ144 l2_144 v_left_144 v_outside_144))))))))))) ∧ (¬ 1872 ≤ l2_122 → (vp_in l2_122 1872 ∧ I122 (l2_122 + 1) (vp_updL v_left_122 l2_122.toNatClampNeg 0) ∧ μ122 (l2_122 + 1) (vp_updL v_left_122 l2_122.toNatClampNeg 0) < μ122 l2_122 v_left_122))))
/-! pure: what hinders, on both sides -/
def bad (ctl : Nat → Bool) (mcl mcur : Nat → Int32) (j : Nat) : Prop := ctl j = true ∧ mcl (rN mcur j) = 0
theorem sp_hindD {n na : Nat} {ctl : Nat → Bool} {xcur mcur xcl mcl mso U : Nat → Int32} {xr : Int32} {X M : Nat → Int64} (hn : n ≤ 12) (hna : na ≤ 12) (hU : ∀ k, k < n → U k = bI (ctl k)) (hcur : ∀ i, i < n → xcur i = nI (rN mcur i) ∧ rN mcur i < 4) (hcl : ∀ q, q < 4 → xcl q = mcl q) (hs : sOK n na mso X M) {post : Int32 → Unit → Prop}
    (h1 : ∀ k, k < n → ctl k = true → ¬ bS M k = 0 → (∀ j, j < k → ctl j = true → bS M j = 0) → post ((-1) - nI k) ())
    (h2 : (∀ j, j < n → ctl j = true → bS M j = 0) → ∀ q, q < 4 → (∃ j, j < n ∧ bad ctl mcl mcur j ∧ rN mcur j = q) → (∀ j, j < n → bad ctl mcl mcur j → q ≤ rN mcur j) → post ((-100) - nI q) ())
    (h3 : (∀ j, j < n → ctl j = true → bS M j = 0) → (∀ j, j < n → ¬ bad ctl mcl mcur j) → (xr = -1 → post (-200) ()) ∧ (¬ xr = -1 → post 0 ())) : wp_D_findHindrance (nI n) (nI na) xr xcur xcl X U post := by
  unfold wp_D_findHindrance wp_D_leastUnbalanced
  refine ⟨fun i => ∃ k : Nat, k ≤ n ∧ i = nI k ∧ ∀ j, j < k → ctl j = true → bS M j = 0, fun i => n - i.toNatClampNeg, ⟨0, by omega, rfl, fun j hj => absurd hj (Nat.not_lt_zero _)⟩, ?_⟩
  rintro i ⟨k, hk, rfl, hj⟩
  refine ⟨fun hx => ?_, fun hx => ?_⟩
  · have hke := q_ex (by omega) hk hx
    rw [hke] at hj
    refine ⟨fun _ => ?_, fun z => absurd rfl z⟩
    unfold wp_D_leastWithoutRates
    refine ⟨fun l i => ∃ k : Nat, k ≤ n ∧ i = nI k ∧ ((l = -1 ∧ ∀ j, j < k → ¬ bad ctl mcl mcur j) ∨ ∃ q, q < 4 ∧ l = nI q ∧ (∃ j, j < k ∧ bad ctl mcl mcur j ∧ rN mcur j = q) ∧ ∀ j, j < k → bad ctl mcl mcur j → q ≤ rN mcur j), fun _ i => n - i.toNatClampNeg, ⟨0, by omega, rfl, Or.inl ⟨rfl, fun j hj => absurd hj (Nat.not_lt_zero _)⟩⟩, ?_⟩
    clear hx hk hke
    clear k
    rintro l i ⟨k, hk, rfl, hl⟩
    refine ⟨fun hx => ?_, fun hx => ?_⟩
    · have hke := q_ex (by omega) hk hx
      rw [hke] at hl
      rcases hl with ⟨rfl, hl⟩ | ⟨q, hq, rfl, e1, e2⟩
      · obtain ⟨g1, g2⟩ := h3 hj hl
        exact ⟨fun _ => ⟨g2, g1⟩, fun z => absurd rfl z⟩
      · exact ⟨fun z => absurd z (ne1 q (by omega)), fun _ => h2 hj q hq e1 e2⟩
    · have hk' := q_in (by omega) hk hx
      have mb := q_mu hk' (show n < 2 ^ 31 by omega)
      obtain ⟨c1, c2⟩ := hcur k hk'
      refine ⟨vp_in_nI (by omega) (by decide), fun x hx => ?_⟩
      rw [nI_clamp (by omega), c1] at hx
      subst hx
      rw [nI_clamp (n := rN mcur k) (by omega), hcl _ c2, nI_1]
      have skip : ¬ bad ctl mcl mcur k → (∃ k' : Nat, k' ≤ n ∧ nI (k + 1) = nI k' ∧ ((l = -1 ∧ ∀ j, j < k' → ¬ bad ctl mcl mcur j) ∨ ∃ q, q < 4 ∧ l = nI q ∧ (∃ j, j < k' ∧ bad ctl mcl mcur j ∧ rN mcur j = q) ∧ ∀ j, j < k' → bad ctl mcl mcur j → q ≤ rN mcur j)) ∧ n - (nI (k + 1)).toNatClampNeg < n - (nI k).toNatClampNeg := fun hb => by
        refine ⟨⟨k + 1, by omega, rfl, ?_⟩, mb⟩
        rcases hl with ⟨e, hl⟩ | ⟨q, hq, e, ⟨j, e1, e2, e3⟩, e4⟩
        · refine Or.inl ⟨e, fun j hj' => ?_⟩
          by_cases z : j = k
          · rw [z]; exact hb
          · exact hl j (by omega)
        · refine Or.inr ⟨q, hq, e, ⟨j, by omega, e2, e3⟩, fun j hj' w => ?_⟩
          by_cases z : j = k
          · rw [z] at w; exact absurd w hb
          · exact e4 j (by omega) w
      refine sp_isC (by omega) (hU k hk') (fun z1 => ⟨fun w => absurd w (by decide), fun _ => ⟨vp_in_nI c2 (by decide), fun z2 => skip (fun w => z2 w.2), fun z2 => ?_⟩⟩) (fun z1 => ⟨fun _ => skip (fun w => by have w1 := w.1; rw [z1] at w1; cases w1), fun w => absurd rfl w⟩)
      have hb : bad ctl mcl mcur k := ⟨z1, z2⟩
      rcases hl with ⟨rfl, hl⟩ | ⟨q, hq, rfl, ⟨j, e1, e2, e3⟩, e4⟩
      · refine ⟨fun z => absurd rfl z, fun _ => ⟨⟨k + 1, by omega, rfl, Or.inr ⟨rN mcur k, c2, rfl, ⟨k, by omega, hb, rfl⟩, fun j hj' w => ?_⟩⟩, mb⟩⟩
        by_cases z : j = k
        · rw [z]; exact Nat.le_refl _
        · exact absurd w (hl j (by omega))
      · refine ⟨fun _ x hx => ?_, fun z => absurd z (ne1 q (by omega))⟩
        refine ⟨⟨k + 1, by omega, rfl, Or.inr ?_⟩, mb⟩
        by_cases z : rN mcur k < q
        · rw [if_pos (nI_lt z (by omega))] at hx
          refine ⟨rN mcur k, c2, hx, ⟨k, by omega, hb, rfl⟩, fun j hj' w => ?_⟩
          by_cases z' : j = k
          · rw [z']; exact Nat.le_refl _
          · have := e4 j (by omega) w; omega
        · rw [if_neg (nI_nlt (by omega) (by omega))] at hx
          refine ⟨q, hq, hx, ⟨j, by omega, e2, e3⟩, fun j hj' w => ?_⟩
          by_cases z' : j = k
          · rw [z']; omega
          · exact e4 j (by omega) w
  · have hk' := q_in (by omega) hk hx
    have mb := q_mu hk' (show n < 2 ^ 31 by omega)
    rw [nI_1]
    have skip : (ctl k = true → bS M k = 0) → (∃ k' : Nat, k' ≤ n ∧ nI (k + 1) = nI k' ∧ ∀ j, j < k' → ctl j = true → bS M j = 0) ∧ n - (nI (k + 1)).toNatClampNeg < n - (nI k).toNatClampNeg := fun hb => by
      refine ⟨⟨k + 1, by omega, rfl, fun j hj' w => ?_⟩, mb⟩
      by_cases z : j = k
      · rw [z] at w ⊢; exact hb w
      · exact hj j (by omega) w
    refine sp_isC (by omega) (hU k hk') (fun z1 => ⟨fun w => absurd w (by decide), fun _ => sp_bookTotal hn hna hs hk' ⟨fun z2 => skip (fun _ => z2), fun z2 => ⟨fun w => absurd w (ne1 k (by omega)), fun _ => h1 k hk' z1 z2 hj⟩⟩⟩) (fun z1 => ⟨fun _ => skip (fun w => by rw [z1] at w; cases w), fun w => absurd rfl w⟩)
set_option maxHeartbeats 1000000 in
theorem sp_hindM {n na : Nat} {ctl : Nat → Bool} {mcur mso mcl mav P : Nat → Int32} {tw dn it : Int32} {M T Lf Sp Ou It : Nat → Int64} (hn : n ≤ 12) (hna : na ≤ 12) (hP : pOK P) (hok : mOK (hOf P)) (hC : ∀ k, k < n → ctl k = mC (hOf P) 4 k) (hcur : ∀ i, i < n → mcur i = nI (rN mcur i) ∧ rN mcur i < 4) {post : Int32 → (Int32 × Int32 × Int32 × (Nat → Int64) × (Nat → Int64) × (Nat → Int64) × (Nat → Int64)) → Prop}
    (h1 : ∀ k, k < n → ctl k = true → ¬ bS M k = 0 → (∀ j, j < k → ctl j = true → bS M j = 0) → post ((-1) - nI k) (0, dn, it, Lf, Sp, Ou, It))
    (h2 : (∀ j, j < n → ctl j = true → bS M j = 0) → ∀ q, q < 4 → (∃ j, j < n ∧ bad ctl mcl mcur j ∧ rN mcur j = q) → (∀ j, j < n → bad ctl mcl mcur j → q ≤ rN mcur j) → post ((-100) - nI q) (0, dn, it, Lf, Sp, Ou, It))
    (h3 : (∀ j, j < n → ctl j = true → bS M j = 0) → (∀ j, j < n → ¬ bad ctl mcl mcur j) → ((∀ i, i < na → ¬ mso i = 4) → post (-200) (0, dn, it, Lf, Sp, Ou, It)) ∧ (∀ r, r < na → mso r = 4 → wp_Mc (nI r) 0 (nI n) (nI na) mcur mso mcl mav P M T Lf Sp Ou It post)) : wp_M_consolidate tw (nI n) (nI na) dn it mcur mso mcl mav P M T Lf Sp Ou It post := by
  unfold wp_M_consolidate
  refine ⟨fun i t => ∃ k : Nat, k ≤ n ∧ i = nI k ∧ t = 0 ∧ ∀ j, j < k → ctl j = true → bS M j = 0, fun i _ => n - i.toNatClampNeg, ⟨0, by omega, rfl, rfl, fun j hj => absurd hj (Nat.not_lt_zero _)⟩, ?_⟩
  rintro i t ⟨k, hk, rfl, rfl, hj⟩
  refine ⟨fun hx => ?_, fun hx => ?_⟩
  · have hke := q_ex (by omega) hk hx
    rw [hke] at hj
    clear hx hk hke
    clear k
    refine ⟨fun i => ∃ q : Nat, q ≤ 4 ∧ i = nI q ∧ ∀ j, j < n → bad ctl mcl mcur j → q ≤ rN mcur j, fun i => 4 - i.toNatClampNeg, ⟨0, by omega, rfl, fun _ _ _ => Nat.zero_le _⟩, ?_⟩
    rintro i ⟨q, hq, rfl, hb⟩
    refine ⟨fun hx => ?_, fun hx => ?_⟩
    · have hqe := q_ex (n := 4) (by decide) hq hx
      have hb' : ∀ j, j < n → ¬ bad ctl mcl mcur j := fun j hj' w => by
        have := hb j hj' w
        have := (hcur j hj').2
        omega
      obtain ⟨g1, g2⟩ := h3 hj hb'
      exact sp_reserve hna (fun w => ⟨fun z => absurd z (by decide), fun _ => g1 w⟩) (fun r hr w => ⟨fun _ => g2 r hr w, fun z => absurd (nI_pos' (by omega)) z⟩)
    · have hq' := q_in (n := 4) (by decide) hq hx
      refine ⟨fun i => ∃ k : Nat, k ≤ n ∧ i = nI k ∧ ∀ j, j < k → ¬ (bad ctl mcl mcur j ∧ rN mcur j = q), fun i => n - i.toNatClampNeg, ⟨0, by omega, rfl, fun j hj => absurd hj (Nat.not_lt_zero _)⟩, ?_⟩
      rintro i ⟨k, hk, rfl, hl⟩
      refine ⟨fun hx => ?_, fun hx => ?_⟩
      · have hke := q_ex (by omega) hk hx
        rw [nI_1]
        refine ⟨⟨q + 1, by omega, rfl, fun j hj' w => ?_⟩, q_mu hq' (by decide)⟩
        have := hb j hj' w
        have : rN mcur j ≠ q := fun z => hl j (by omega) ⟨w, z⟩
        omega
      · have hk' := q_in (by omega) hk hx
        have mb := q_mu hk' (show n < 2 ^ 31 by omega)
        obtain ⟨c1, c2⟩ := hcur k hk'
        rw [nI_clamp (n := k) (by omega), nI_clamp (n := q) (by omega), c1, nI_1]
        have skip : ¬ (bad ctl mcl mcur k ∧ rN mcur k = q) → (∃ k' : Nat, k' ≤ n ∧ nI (k + 1) = nI k' ∧ ∀ j, j < k' → ¬ (bad ctl mcl mcur j ∧ rN mcur j = q)) ∧ n - (nI (k + 1)).toNatClampNeg < n - (nI k).toNatClampNeg := fun hb => by
          refine ⟨⟨k + 1, by omega, rfl, fun j hj' => ?_⟩, mb⟩
          by_cases z : j = k
          · rw [z]; exact hb
          · exact hl j (by omega)
        refine ⟨vp_in_nI (by omega) (by decide), fun z => skip (fun w => z (by rw [w.2])), fun z => ?_⟩
        have z := (nI_eq (by omega) (by omega)).mp z
        refine ⟨vp_in_nI hq' (by decide), fun z2 => skip (fun w => z2 (by rw [← w.2]; exact w.1.2)), fun z2 => sp_mC hP hok (by omega) (hC k hk') (fun z3 => ⟨fun w => absurd w (by decide), fun _ => h2 hj q hq' ⟨k, hk', ⟨z3, by rw [z]; exact z2⟩, z⟩ hb⟩) (fun z3 => ⟨fun _ => skip (fun w => by have := w.1.1; rw [z3] at this; cases this), fun w => absurd rfl w⟩)⟩
  · have hk' := q_in (by omega) hk hx
    have mb := q_mu hk' (show n < 2 ^ 31 by omega)
    rw [nI_1]
    have skip : (ctl k = true → bS M k = 0) → (∃ k' : Nat, k' ≤ n ∧ nI (k + 1) = nI k' ∧ (0 : Int32) = 0 ∧ ∀ j, j < k' → ctl j = true → bS M j = 0) ∧ n - (nI (k + 1)).toNatClampNeg < n - (nI k).toNatClampNeg := fun hb => by
      refine ⟨⟨k + 1, by omega, rfl, rfl, fun j hj' w => ?_⟩, mb⟩
      by_cases z : j = k
      · rw [z] at w ⊢; exact hb w
      · exact hj j (by omega) w
    refine sp_mC hP hok (by omega) (hC k hk') (fun z1 => ⟨fun w => absurd w (by decide), fun _ => ?_⟩) (fun z1 => ⟨fun _ => skip (fun w => by rw [z1] at w; cases w), fun w => absurd rfl w⟩)
    unfold wp_M_isBalanced
    refine f_c1 hk' hn ⟨fun _ => ?_, fun z => absurd z (by decide)⟩
    exact sp_mBalanced (by omega) (post := fun rr => (¬ rr = 0 → (∃ k' : Nat, k' ≤ n ∧ nI (k + 1) = nI k' ∧ (0 : Int32) = 0 ∧ ∀ j, j < k' → ctl j = true → bS M j = 0) ∧ n - (nI (k + 1)).toNatClampNeg < n - (nI k).toNatClampNeg) ∧ (rr = 0 → post ((-1) - nI k) (0, dn, it, Lf, Sp, Ou, It))) (fun e => ⟨fun _ => skip (fun _ => e), fun z => absurd z (by decide)⟩) (fun e => ⟨fun z => absurd rfl z, fun _ => h1 k hk' z1 e hj⟩)
