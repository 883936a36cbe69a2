/-! pure: the steps kept, on both sides -/
def mk3 (n c p b c' a' : Nat) : Nat := if c' < c then n + 1 else if c' = c then (if a' < b then p + 1 else p) else 0
def rdS (k na : Nat) (V : Nat → Nat → Nat → Int64) (S0 S : Nat → Int64) (m : Nat → Nat → Nat) : Prop := (∀ c a, c < 12 → a < 12 → S (144 * k + 12 * c + a) = if a < na then sL (fun p => V c p a) (m c a) else 0) ∧ ∀ k' c a, k' ≠ k → c < 12 → a < 12 → S (144 * k' + 12 * c + a) = S0 (144 * k' + 12 * c + a)
theorem rdS_mono {k na : Nat} {V : Nat → Nat → Nat → Int64} {S0 S : Nat → Int64} {m m' : Nat → Nat → Nat} (h : rdS k na V S0 S m) (e : ∀ c a, c < 12 → a < na → m c a = m' c a) : rdS k na V S0 S m' := by
  refine ⟨fun c a hc ha => ?_, h.2⟩
  rw [h.1 c a hc ha]
  by_cases z : a < na
  · rw [if_pos z, if_pos z, e c a hc z]
  · rw [if_neg z, if_neg z]
theorem rdS_up {k na : Nat} {V : Nat → Nat → Nat → Int64} {S0 S : Nat → Int64} {m m' : Nat → Nat → Nat} (h : rdS k na V S0 S m) {c b : Nat} (hc : c < 12) (hb : b < na) (hna : na ≤ 12) (e1 : m' c b = m c b + 1) (e2 : ∀ c' a', c' < 12 → a' < na → ¬ (c' = c ∧ a' = b) → m c' a' = m' c' a') {v : Int64} (hv : v = S (144 * k + 12 * c + b) + V c (m c b) b) : rdS k na V S0 (vp_updL S (144 * k + 12 * c + b) v) m' := by
  refine ⟨fun c' a' hc' ha' => ?_, fun k' c' a' hk hc' ha' => ?_⟩
  · by_cases z : c' = c ∧ a' = b
    · obtain ⟨z1, z2⟩ := z
      rw [z1, z2, pk_uLs, hv, h.1 c b hc (by omega), if_pos hb, if_pos hb, e1]
      rfl
    · rw [pk_uLn (by omega), h.1 c' a' hc' ha']
      by_cases w : a' < na
      · rw [if_pos w, if_pos w, e2 c' a' hc' w z]
      · rw [if_neg w, if_neg w]
  · rw [pk_uLn (by omega), h.2 k' c' a' hk hc' ha']
set_option maxHeartbeats 2000000 in
theorem sp_keepStep {n na k : Nat} (hn : n ≤ 12) (hna : na ≤ 12) (hk : k < 3) {V : Nat → Nat → Nat → Int64} {R S : Nat → Int64} (hR : ∀ c p a, c < 12 → p < 13 → a < 12 → R (iD c p a) = V c p a) (hS : ∀ c a, c < 12 → a < 12 → S (144 * k + 12 * c + a) = 0) {post : (Nat → Int64) → Prop} (hp : ∀ S', rdS k na V S S' (fun c _ => if c < n then n + 1 else 0) → post S') : wp_R_keepStep (nI k) (nI n) (nI na) R S post := by
  unfold wp_R_keepStep
  refine ⟨fun i S' => ∃ c : Nat, c ≤ n ∧ i = nI c ∧ rdS k na V S S' (mk3 n c 0 0), fun i _ => n - i.toNatClampNeg, ⟨0, by omega, rfl, fun c a hc ha => ?_, fun _ _ _ _ _ _ => rfl⟩, ?_⟩
  · rw [hS c a hc ha]
    have : mk3 n 0 0 0 c a = 0 := by unfold mk3; simp
    rw [this]; simp [sL]
  rintro i S' ⟨c, hc, rfl, h⟩
  refine ⟨fun hx => ?_, fun hx => ?_⟩
  · have hce := q_ex (by omega) hc hx
    refine hp _ (rdS_mono h (fun c' a' _ _ => ?_))
    unfold mk3
    by_cases z : c' < n
    · rw [if_pos (by omega), if_pos z]
    · rw [if_neg (by omega), if_neg z]; simp
  · have hc' := q_in (by omega) hc hx
    refine ⟨fun j S' => ∃ p : Nat, p ≤ n + 1 ∧ j + 1 = nI p ∧ rdS k na V S S' (mk3 n c p 0), fun j _ => n + 1 - (j + 1).toNatClampNeg, ⟨0, by omega, m1_0, h⟩, ?_⟩
    clear h
    rintro j S' ⟨p, hp1, hj, h⟩
    refine ⟨fun hx => ?_, fun hx => ?_⟩
    · have : p = n + 1 := by have := (pm_le hj (by omega) (by omega)).mp hx; omega
      subst this
      rw [nI_1]
      refine ⟨⟨c + 1, by omega, rfl, rdS_mono h (fun c' a' _ _ => ?_)⟩, q_mu hc' (by omega)⟩
      unfold mk3
      by_cases z : c' < c
      · rw [if_pos z, if_pos (by omega)]
      · rw [if_neg z]
        by_cases w : c' = c
        · rw [if_pos w, if_neg (Nat.not_lt_zero a'), if_pos (show c' < c + 1 by omega)]
        · rw [if_neg w, if_neg (show ¬ c' < c + 1 by omega)]; simp
    · have hp' : p < n + 1 := by have := _root_.mt (pm_le (n := n) hj (by omega) (by omega)).mpr hx; omega
      refine ⟨fun l S' => ∃ b : Nat, b ≤ na ∧ l = nI b ∧ rdS k na V S S' (mk3 n c p b), fun l _ => na - l.toNatClampNeg, ⟨0, by omega, rfl, h⟩, ?_⟩
      clear h
      rintro l S' ⟨b, hb, rfl, h⟩
      refine ⟨fun hx => ?_, fun hx => ?_⟩
      · have hbe := q_ex (by omega) hb hx
        refine ⟨⟨p + 1, by omega, by rw [hj, nI_1], rdS_mono h (fun c' a' _ ha' => ?_)⟩, pm_mu hj hp' (by omega)⟩
        unfold mk3
        by_cases z : c' < c
        · rw [if_pos z, if_pos z]
        · rw [if_neg z, if_neg z]
          by_cases w : c' = c
          · rw [if_pos w, if_pos w, if_pos (by omega), if_neg (by omega)]
          · rw [if_neg w, if_neg w]
      · have hb' := q_in (by omega) hb hx
        have e1 : (((nI k * 12) + nI c) * 12) + nI b = nI (144 * k + 12 * c + b) := by
          rw [ix12, ix12]
          congr 1
          omega
        have e2 : (((nI c * 13) + j) + 1) * 12 + nI b = nI (iD c p b) := cD hj
        have l2 : iD c p b < 1872 := by unfold iD; omega
        have in1 : vp_in (nI (144 * k + 12 * c + b)) 432 := vp_in_nI (by omega) (by decide)
        unfold wp_R_stepPlace wp_D_place
        rw [e1, e2]
        dsimp only
        rw [nI_clamp (n := 144 * k + 12 * c + b) (by omega), nI_clamp (n := iD c p b) (by omega), hR c p b (by omega) (by omega) (by omega), nI_1]
        have em : mk3 n c p b c b = p := by unfold mk3; simp
        refine ⟨in1, vp_in_nI l2 (by decide), in1, ⟨b + 1, by omega, rfl, rdS_up h (by omega) hb' hna ?_ (fun c' a' _ _ z => ?_) (by rw [em])⟩, q_mu hb' (by omega)⟩
        · rw [em]; unfold mk3; simp
        · unfold mk3
          by_cases z1 : c' < c
          · rw [if_pos z1, if_pos z1]
          · rw [if_neg z1, if_neg z1]
            by_cases w : c' = c
            · rw [if_pos w, if_pos w]
              by_cases y : a' < b
              · rw [if_pos y, if_pos (by omega)]
              · rw [if_neg y, if_neg (by omega)]
            · rw [if_neg w, if_neg w]
theorem sp_mark {k : Nat} (hk : k < 3) {V : Nat → Nat → Nat → Int64} {L S : Nat → Int64} (hL : ∀ c p a, c < 12 → p < 13 → a < 12 → L (iM c p a) = V c p a) {post : (Nat → Int64) → Prop} (hp : ∀ S' : Nat → Int64, (∀ c a, c < 12 → a < 12 → S' (144 * k + 12 * c + a) = sL (fun p => V c p a) 13) → (∀ k' c a, k' ≠ k → c < 12 → a < 12 → S' (144 * k' + 12 * c + a) = S (144 * k' + 12 * c + a)) → post S') : wp_M_mark (nI k) L S post := by
  unfold wp_M_mark
  refine ⟨fun i S' => ∃ c : Nat, c ≤ 12 ∧ i = nI c ∧ (∀ c' a', c' < c → a' < 12 → S' (144 * k + 12 * c' + a') = sL (fun p => V c' p a') 13) ∧ (∀ k' c a, k' ≠ k → c < 12 → a < 12 → S' (144 * k' + 12 * c + a) = S (144 * k' + 12 * c + a)), fun i _ => 12 - i.toNatClampNeg, ⟨0, by omega, rfl, fun c' a' h => absurd h (Nat.not_lt_zero _), fun _ _ _ _ _ _ => rfl⟩, ?_⟩
  rintro i S' ⟨c, hc, rfl, h1, h2⟩
  refine ⟨fun hx => ?_, fun hx => ?_⟩
  · have hce := q_ex (n := 12) (by decide) hc hx
    exact hp _ (fun c' a' hc' ha' => h1 c' a' (by omega) ha') h2
  · have hc' := q_in (n := 12) (by decide) hc hx
    refine ⟨fun j S' => ∃ b : Nat, b ≤ 12 ∧ j = nI b ∧ (∀ c' a', (c' < c ∧ a' < 12) ∨ (c' = c ∧ a' < b) → S' (144 * k + 12 * c' + a') = sL (fun p => V c' p a') 13) ∧ (∀ k' c a, k' ≠ k → c < 12 → a < 12 → S' (144 * k' + 12 * c + a) = S (144 * k' + 12 * c + a)), fun j _ => 12 - j.toNatClampNeg, ⟨0, by omega, rfl, fun c' a' h => h1 c' a' (by omega) (by omega), h2⟩, ?_⟩
    clear h1 h2
    rintro j S' ⟨b, hb, rfl, h1, h2⟩
    refine ⟨fun hx => ?_, fun hx => ?_⟩
    · have hbe := q_ex (n := 12) (by decide) hb hx
      rw [nI_1]
      exact ⟨⟨c + 1, by omega, rfl, fun c' a' g1 g2 => h1 c' a' (by omega), h2⟩, q_mu hc' (by decide)⟩
    · have hb' := q_in (n := 12) (by decide) hb hx
      refine sp_total (f := fun p => V c p b) hc' hb' (fun p hp => hL c p b hc' hp hb') ?_
      have e1 : ((144 * nI k) + (12 * nI c)) + nI b = nI (144 * k + 12 * c + b) := by
        rw [show (144 : Int32) = nI 144 from rfl, show (12 : Int32) = nI 12 from rfl, pk_mul, pk_mul, nI_add, nI_add]
      rw [e1, nI_clamp (n := 144 * k + 12 * c + b) (by omega), nI_1]
      refine ⟨vp_in_nI (by omega) (by decide), ⟨b + 1, by omega, rfl, fun c' a' g => ?_, fun k' c' a' g1 g2 g3 => ?_⟩, q_mu hb' (by decide)⟩
      · by_cases z : c' = c ∧ a' = b
        · obtain ⟨z1, z2⟩ := z
          rw [z1, z2, pk_uLs]
        · rw [pk_uLn (by omega), h1 c' a' (by omega)]
      · rw [pk_uLn (by omega), h2 k' c' a' g1 g2 g3]
