/-- a book's sum -/
def bS (M : Nat → Int64) (c : Nat) : Int64 := sL (fun p => sL (fun a => M (156 * c + 13 * a + p)) 12) 13
theorem sp_bookTotal {n na : Nat} {mso : Nat → Int32} {X M : Nat → Int64} (hn : n ≤ 12) (hna : na ≤ 12) (h : sOK n na mso X M) {k : Nat} (hk : k < n) {post : Int64 → Unit → Prop} (hp : post (bS M k) ()) : wp_D_bookTotal (nI k) (nI n) (nI na) X post := by
  have e : bS M k = sL (fun p => sL (fun a => M (156 * k + 13 * a + p)) na) (n + 1) := by
    unfold bS
    rw [sL_more (n := n + 1) (k := 13) (by omega) (fun p h1 h2 => sL_zero fun a ha => (h k p a (by omega) h2 ha).2.2.2 (Or.inr (Or.inl (by omega))))]
    exact sL_congr fun p hp => sL_more hna fun a h1 h2 => (h k p a (by omega) (by omega) h2).2.2.2 (Or.inr (Or.inr (Or.inl h1)))
  rw [e] at hp
  unfold wp_D_bookTotal
  refine ⟨fun t i => ∃ j : Nat, j ≤ n + 1 ∧ t = sL (fun p => sL (fun a => M (156 * k + 13 * a + p)) na) j ∧ i + 1 = nI j, fun _ i => n + 1 - (i + 1).toNatClampNeg, ⟨0, by omega, rfl, rfl⟩, ?_⟩
  rintro t i ⟨j, hj, rfl, hi⟩
  have hi' : i = nI j - 1 := by rw [← hi]; simp
  have hcmp : nI n ≤ i ↔ n + 1 ≤ j := by
    rw [hi', Int32.le_iff_toInt_le, nI_toInt (by omega)]
    by_cases z : j = 0
    · subst z
      have : (nI 0 - 1).toInt = -1 := by decide
      omega
    · obtain ⟨j', rfl⟩ : ∃ j', j = j' + 1 := ⟨j - 1, by omega⟩
      rw [nI_pred, nI_toInt (by omega)]; omega
  refine ⟨fun hc => ?_, fun hc => ?_⟩
  · have : j = n + 1 := by have := hcmp.mp hc; omega
    subst this
    exact hp
  · have hj' : j < n + 1 := by have := _root_.mt hcmp.mpr hc; omega
    refine ⟨fun t a => ∃ b : Nat, b ≤ na ∧ t = sL (fun p => sL (fun a => M (156 * k + 13 * a + p)) na) j + sL (fun a => M (156 * k + 13 * a + j)) b ∧ a = nI b, fun _ a => na - a.toNatClampNeg, ⟨0, by omega, by show _ = _ + 0; rw [Int64.add_zero], rfl⟩, ?_⟩
    rintro t a ⟨b, hb, rfl, rfl⟩
    refine ⟨fun hc => ?_, fun hc => ?_⟩
    · have := q_ex (by omega) hb hc
      subst this
      refine ⟨⟨j + 1, by omega, rfl, by rw [hi, nI_1]⟩, ?_⟩
      show n + 1 - (i + 1 + 1).toNatClampNeg < n + 1 - (i + 1).toNatClampNeg
      rw [hi, nI_1, nI_clamp (by omega), nI_clamp (by omega)]
      omega
    · have hb' := q_in (by omega) hb hc
      unfold wp_D_place
      have e2 : (nI k * 13 + i + 1) * 12 + nI b = nI ((k * 13 + j) * 12 + b) := by
        rw [Int32.add_assoc, hi, show (13 : Int32) = nI 13 from rfl, pk_mul, nI_add, ix12]
      rw [e2]
      dsimp only
      rw [nI_clamp (by omega), (h k j b (by omega) (by omega) (by omega)).1, nI_1]
      refine ⟨vp_in_nI (by omega) (by decide), fun x hx => ⟨⟨b + 1, by omega, ?_, rfl⟩, q_mu hb' (by omega)⟩⟩
      rw [hx]
      show _ = _ + (sL (fun a => M (156 * k + 13 * a + j)) b + M (156 * k + 13 * b + j))
      rw [Int64.add_assoc]
theorem sL_flat {f : Nat → Int64} {m : Nat} : ∀ {n : Nat}, sL f (n * m) = sL (fun i => sL (fun j => f (i * m + j)) m) n
  | 0 => by rw [Nat.zero_mul]; rfl
  | n + 1 => by
    have h : ∀ k, sL f (n * m + k) = sL f (n * m) + sL (fun j => f (n * m + j)) k := by
      intro k
      induction k with
      | zero => show _ = _ + 0; rw [Int64.add_zero]; rfl
      | succ k ih =>
        show sL f (n * m + k) + f (n * m + k) = _ + (sL (fun j => f (n * m + j)) k + f (n * m + k))
        rw [ih, Int64.add_assoc]
    rw [Nat.succ_mul, h m, sL_flat (n := n)]
    rfl
theorem bS_flat (M : Nat → Int64) (c : Nat) : sL (fun k => M (156 * c + k)) 156 = bS M c := by
  unfold bS
  rw [sL_swap, show 156 = 12 * 13 from rfl, sL_flat]
  refine sL_congr fun a _ => sL_congr fun p _ => ?_
  rw [show 12 * 13 * c + (a * 13 + p) = 156 * c + 13 * a + p by omega]
theorem sp_mBalanced {M : Nat → Int64} {k : Nat} (hk : k < 12) {post : Int32 → Prop} (h1 : bS M k = 0 → post 1) (h0 : ¬ bS M k = 0 → post 0) : (∃ (I20 : Int64 → Int32 → Prop) (μ20 : Int64 → Int32 → Nat), I20 0 0 ∧ ∀ (l2_20 : Int64) (l4_20 : Int32), I20 l2_20 l4_20 → ((156 ≤ l4_20 → ((¬ l2_20 = 0 → post 0) ∧ (l2_20 = 0 → post 1))) ∧ (¬ 156 ≤ l4_20 → (vp_in ((156 * nI k) + l4_20) 1872 ∧ (∀ x43 : Int64, x43 = (l2_20 + (M (Int32.toNatClampNeg ((156 * nI k) + l4_20)))) → I20 x43 (l4_20 + 1) ∧ μ20 x43 (l4_20 + 1) < μ20 l2_20 l4_20))))) := by
  refine ⟨fun t i => ∃ j : Nat, j ≤ 156 ∧ t = sL (fun q => M (156 * k + q)) j ∧ i = nI j, fun _ i => 156 - i.toNatClampNeg, ⟨0, by omega, rfl, rfl⟩, ?_⟩
  rintro t i ⟨j, hj, rfl, rfl⟩
  refine ⟨fun hc => ?_, fun hc => ?_⟩
  · have := q_ex (n := 156) (by decide) hj hc
    subst this
    rw [bS_flat]
    exact ⟨h0, h1⟩
  · have hj' := q_in (n := 156) (by decide) hj hc
    rw [show (156 : Int32) * nI k + nI j = nI (156 * k + j) by rw [show (156 : Int32) = nI 156 from rfl, pk_mul, nI_add], nI_clamp (by omega), nI_1]
    exact ⟨vp_in_nI (by omega) (by decide), fun x hx => ⟨⟨j + 1, by omega, hx, rfl⟩, q_mu hj' (by decide)⟩⟩
theorem cs_isBalanced {n na : Nat} {mso : Nat → Int32} {X M : Nat → Int64} (hn : n ≤ 12) (hna : na ≤ 12) (h : sOK n na mso X M) (c mt : Int32) : ∃ r : Int32, (∀ post : Int32 → Unit → Prop, post r () → wp_D_isBalanced c (nI n) (nI na) X post) ∧ ∀ post : Int32 → Int32 → Prop, post r 0 → wp_M_isBalanced c mt (nI n) M post := by
  rcases c_or c hn with ⟨k, hk, rfl⟩ | w
  · by_cases e : bS M k = 0
    · refine ⟨1, fun post hp => ?_, fun post hp => ?_⟩
      · unfold wp_D_isBalanced
        exact e_c1 hk hn ⟨fun _ => sp_bookTotal hn hna h hk ⟨fun z => absurd e z, fun _ => hp⟩, fun z => absurd z (by decide)⟩
      · unfold wp_M_isBalanced
        exact f_c1 hk hn ⟨fun _ => sp_mBalanced (post := fun r => post r 0) (by omega) (fun _ => hp) (fun z => absurd e z), fun z => absurd z (by decide)⟩
    · refine ⟨0, fun post hp => ?_, fun post hp => ?_⟩
      · unfold wp_D_isBalanced
        exact e_c1 hk hn ⟨fun _ => sp_bookTotal hn hna h hk ⟨fun _ => hp, fun z => absurd z e⟩, fun z => absurd z (by decide)⟩
      · unfold wp_M_isBalanced
        exact f_c1 hk hn ⟨fun _ => sp_mBalanced (post := fun r => post r 0) (by omega) (fun z => absurd z e) (fun _ => hp), fun z => absurd z (by decide)⟩
  · refine ⟨-1, fun post hp => ?_, fun post hp => ?_⟩
    · unfold wp_D_isBalanced
      exact e_c0 w ⟨fun z => absurd rfl z, fun _ => hp⟩
    · unfold wp_M_isBalanced
      exact f_c0 w ⟨fun z => absurd rfl z, fun _ => hp⟩
