/-- the books -/
def sOK (n na : Nat) (mso : Nat → Int32) (X M : Nat → Int64) : Prop := ∀ c p a, c < 12 → p < 13 → a < 12 → X ((c * 13 + p) * 12 + a) = M (156 * c + 13 * a + p) ∧ -1000000000000 ≤ (M (156 * c + 13 * a + p)).toInt ∧ (M (156 * c + 13 * a + p)).toInt ≤ 1000000000000 ∧ ((n ≤ c ∨ n < p ∨ na ≤ a ∨ (mso a = 3 ∧ 0 < p)) → M (156 * c + 13 * a + p) = 0)
theorem sOK_mono {n na n' na' : Nat} {mso mso' : Nat → Int32} {X M : Nat → Int64} (h : sOK n na mso X M) (hn : n ≤ n') (hna : na ≤ na') (hs : ∀ i, i < na → mso' i = mso i) : sOK n' na' mso' X M := by
  intro c p a hc hp ha
  obtain ⟨h1, h2, h3, h4⟩ := h c p a hc hp ha
  refine ⟨h1, h2, h3, fun z => h4 ?_⟩
  by_cases w : na ≤ a
  · exact Or.inr (Or.inr (Or.inl w))
  · rcases z with z | z | z | ⟨z1, z2⟩
    · exact Or.inl (by omega)
    · exact Or.inr (Or.inl (by omega))
    · exact Or.inr (Or.inr (Or.inl (by omega)))
    · exact Or.inr (Or.inr (Or.inr ⟨by rw [← hs a (by omega)]; exact z1, z2⟩))
/-- a partner: none, or another company: its row in the book -/
def pRow (n k : Nat) (p : Int32) (j : Nat) : Prop := (p = -1 ∧ j = 0) ∨ ∃ q, q < n ∧ q ≠ k ∧ p = nI q ∧ j = q + 1
theorem pRow_or {n : Nat} (hn : n ≤ 12) (k : Nat) (p : Int32) : (∃ j, pRow n k p j) ∨ (¬ p = -1 ∧ ((p < 0 ∨ nI n ≤ p) ∨ (k < n ∧ p = nI k))) := by
  by_cases e : p = -1
  · exact Or.inl ⟨0, Or.inl ⟨e, rfl⟩⟩
  · rcases c_or p hn with ⟨q, hq, rfl⟩ | h
    · by_cases w : q = k
      · subst w; exact Or.inr ⟨e, Or.inr ⟨hq, rfl⟩⟩
      · exact Or.inl ⟨q + 1, Or.inr ⟨q, hq, w, rfl, rfl⟩⟩
    · exact Or.inr ⟨e, Or.inl h⟩
theorem e_p1 {n k j : Nat} {p : Int32} (hn : n ≤ 12) (hk : k < n) (h : pRow n k p j) {post : Int32 → Unit → Prop} (hp : post 1 ()) : wp_D_isPartnerOf (nI k) p (nI n) post := by
  rcases h with ⟨rfl, -⟩ | ⟨q, hq, hne, rfl, -⟩
  · exact ⟨fun _ => hp, fun z => absurd rfl z⟩
  · exact ⟨fun _ => hp, fun _ => e_c1 hq hn ⟨fun z => absurd z (by decide), fun _ => ⟨fun z => absurd ((nI_eq (a := q) (b := k) (by omega) (by omega)).mp z) hne, fun _ => hp⟩⟩⟩
theorem e_p0 {n k : Nat} {p : Int32} (hn : n ≤ 12) (h : ¬ p = -1 ∧ ((p < 0 ∨ nI n ≤ p) ∨ (k < n ∧ p = nI k))) {post : Int32 → Unit → Prop} (hp : post 0 ()) : wp_D_isPartnerOf (nI k) p (nI n) post := by
  obtain ⟨h1, h2⟩ := h
  refine ⟨fun z => absurd z h1, fun _ => ?_⟩
  rcases h2 with h2 | ⟨hk, rfl⟩
  · exact e_c0 h2 ⟨fun _ => hp, fun z => absurd rfl z⟩
  · exact e_c1 hk hn ⟨fun z => absurd z (by decide), fun _ => ⟨fun _ => hp, fun z => absurd rfl z⟩⟩
theorem f_p1 {n k j : Nat} {p : Int32} (hn : n ≤ 12) (hk : k < n) (h : pRow n k p j) {post : Int32 → Unit → Prop} (hp : post 1 ()) : wp_M_isPartner (nI k) p (nI n) post := e_p1 hn hk h hp
theorem f_p0 {n k : Nat} {p : Int32} (hn : n ≤ 12) (h : ¬ p = -1 ∧ ((p < 0 ∨ nI n ≤ p) ∨ (k < n ∧ p = nI k))) {post : Int32 → Unit → Prop} (hp : post 0 ()) : wp_M_isPartner (nI k) p (nI n) post := e_p0 hn h hp
theorem pl_D {n k j a : Nat} {p : Int32} (h : pRow n k p j) : ((nI k * 13 + p) + 1) * 12 + nI a = nI ((k * 13 + j) * 12 + a) := by
  rcases h with ⟨rfl, rfl⟩ | ⟨q, -, -, rfl, rfl⟩
  · rw [show (nI k * 13 + (-1) + 1 : Int32) = nI (k * 13 + 0) by
      rw [Int32.add_assoc, show (-1 + 1 : Int32) = 0 from rfl, Int32.add_zero, show (13 : Int32) = nI 13 from rfl, pk_mul]; rfl, ix12]
  · rw [show (13 : Int32) = nI 13 from rfl, pk_mul, nI_add, nI_1, ix12]
    rfl
theorem pl_M {n k j a : Nat} {p : Int32} (h : pRow n k p j) : ((156 * nI k + 13 * nI a) + p) + 1 = nI (156 * k + 13 * a + j) := by
  rw [show (156 : Int32) = nI 156 from rfl, show (13 : Int32) = nI 13 from rfl, pk_mul, pk_mul, nI_add]
  rcases h with ⟨rfl, rfl⟩ | ⟨q, -, -, rfl, rfl⟩
  · rw [Int32.add_assoc, show (-1 + 1 : Int32) = 0 from rfl, Int32.add_zero]; rfl
  · rw [nI_add, nI_1]; rfl
theorem pRow_lt {n k j : Nat} {p : Int32} (hn : n ≤ 12) (h : pRow n k p j) : j < 13 ∧ j ≤ n := by
  rcases h with ⟨-, rfl⟩ | ⟨q, hq, -, -, rfl⟩ <;> omega
/-- who and what a book's place is, or not -/
theorem e_pl1 {n na k a j : Nat} {p : Int32} (hn : n ≤ 12) (hna : na ≤ 12) (hk : k < n) (ha : a < na) (h : pRow n k p j) {post : Int32 → Unit → Prop} (hp : post 1 ()) : wp_D_isPlace (nI k) (nI a) p (nI n) (nI na) post := by
  unfold wp_D_isPlace
  exact e_c1 hk hn ⟨fun z => absurd z (by decide), fun _ => e_a1 ha hna ⟨fun z => absurd z (by decide), fun _ => e_p1 hn hk h ⟨fun z => absurd z (by decide), fun _ => hp⟩⟩⟩
theorem e_pl0 {n na : Nat} {c a p : Int32} (hn : n ≤ 12) (hna : na ≤ 12) (h : (c < 0 ∨ nI n ≤ c) ∨ ∃ k, k < n ∧ c = nI k ∧ ((a < 0 ∨ nI na ≤ a) ∨ ∃ b, b < na ∧ a = nI b ∧ (¬ p = -1 ∧ ((p < 0 ∨ nI n ≤ p) ∨ (k < n ∧ p = nI k))))) {post : Int32 → Unit → Prop} (hp : post 0 ()) : wp_D_isPlace c a p (nI n) (nI na) post := by
  unfold wp_D_isPlace
  rcases h with h | ⟨k, hk, rfl, h | ⟨b, hb, rfl, h⟩⟩
  · exact e_c0 h ⟨fun _ => hp, fun z => absurd rfl z⟩
  · exact e_c1 hk hn ⟨fun z => absurd z (by decide), fun _ => e_a0 h ⟨fun _ => hp, fun z => absurd rfl z⟩⟩
  · exact e_c1 hk hn ⟨fun z => absurd z (by decide), fun _ => e_a1 hb hna ⟨fun z => absurd z (by decide), fun _ => e_p0 hn h ⟨fun _ => hp, fun z => absurd rfl z⟩⟩⟩
theorem pl_or {n na : Nat} (hn : n ≤ 12) (hna : na ≤ 12) (c a p : Int32) : (∃ k b j, k < n ∧ b < na ∧ c = nI k ∧ a = nI b ∧ pRow n k p j) ∨ ((c < 0 ∨ nI n ≤ c) ∨ ∃ k, k < n ∧ c = nI k ∧ ((a < 0 ∨ nI na ≤ a) ∨ ∃ b, b < na ∧ a = nI b ∧ (¬ p = -1 ∧ ((p < 0 ∨ nI n ≤ p) ∨ (k < n ∧ p = nI k))))) := by
  rcases c_or c hn with ⟨k, hk, rfl⟩ | h
  · rcases c_or a hna with ⟨b, hb, rfl⟩ | h
    · rcases pRow_or hn k p with ⟨j, hj⟩ | h
      · exact Or.inl ⟨k, b, j, hk, hb, rfl, rfl, hj⟩
      · exact Or.inr (Or.inr ⟨k, hk, rfl, Or.inr ⟨b, hb, rfl, h⟩⟩)
    · exact Or.inr (Or.inr ⟨k, hk, rfl, Or.inl h⟩)
  · exact Or.inr (Or.inl h)
theorem pl_inj {c p a c' p' a' : Nat} (hp : p < 13) (ha : a < 12) (hp' : p' < 13) (ha' : a' < 12) : (c * 13 + p) * 12 + a = (c' * 13 + p') * 12 + a' ↔ c = c' ∧ p = p' ∧ a = a' := by omega
theorem cm_inj {c p a c' p' a' : Nat} (hp : p < 13) (ha : a < 12) (hp' : p' < 13) (ha' : a' < 12) : 156 * c + 13 * a + p = 156 * c' + 13 * a' + p' ↔ c = c' ∧ p = p' ∧ a = a' := by omega
theorem sOK_set {n na : Nat} {mso : Nat → Int32} {X M : Nat → Int64} (h : sOK n na mso X M) {k j b : Nat} (hk : k < n) (hn : n ≤ 12) (hj : j < 13) (hjn : j ≤ n) (hb : b < na) (hna : na ≤ 12) (h3 : mso b = 3 → j = 0) {v : Int64} (hv1 : -1000000000000 ≤ v.toInt) (hv2 : v.toInt ≤ 1000000000000) : sOK n na mso (vp_updL X ((k * 13 + j) * 12 + b) v) (vp_updL M (156 * k + 13 * b + j) v) := by
  intro c p a hc hp ha
  obtain ⟨h1, h2, h3', h4⟩ := h c p a hc hp ha
  by_cases e : c = k ∧ p = j ∧ a = b
  · obtain ⟨rfl, rfl, rfl⟩ := e
    rw [pk_uLs, pk_uLs]
    refine ⟨rfl, hv1, hv2, fun z => ?_⟩
    exfalso
    rcases z with z | z | z | ⟨z1, z2⟩
    · omega
    · omega
    · omega
    · have := h3 z1; omega
  · rw [pk_uLn (mt (pl_inj hp ha hj (by omega)).mp e), pk_uLn (mt (cm_inj hp ha hj (by omega)).mp e)]
    exact ⟨h1, h2, h3', h4⟩
set_option maxHeartbeats 2000000 in
theorem j_1 : (1000000000000 : Int64).toInt = 1000000000000 := by decide
theorem j_2 : (-1000000000000 : Int64).toInt = -1000000000000 := by decide
theorem j_3 : (2000000000000 : Int64).toInt = 2000000000000 := by decide
theorem j_4 : (-2000000000000 : Int64).toInt = -2000000000000 := by decide
theorem j_0 : (0 : Int64).toInt = 0 := by decide
theorem j_hi {m : Int64} (h1 : -1000000000000 ≤ m.toInt) (h2 : m.toInt ≤ 1000000000000) : ((1000000000000 : Int64) - m).toInt = 1000000000000 - m.toInt := by
  have h := @j_sub 1000000000000 m
  rw [j_1] at h
  generalize ((1000000000000 : Int64) - m).toInt = z at h ⊢
  generalize m.toInt = w at *
  exact h (by omega) (by omega)
theorem j_lo {m : Int64} (h1 : -1000000000000 ≤ m.toInt) (h2 : m.toInt ≤ 1000000000000) : ((-1000000000000 : Int64) - m).toInt = -1000000000000 - m.toInt := by
  have h := @j_sub (-1000000000000) m
  rw [j_2] at h
  generalize ((-1000000000000 : Int64) - m).toInt = z at h ⊢
  generalize m.toInt = w at *
  exact h (by omega) (by omega)
theorem j_ad {m v : Int64} (h1 : -1000000000000 ≤ m.toInt) (h2 : m.toInt ≤ 1000000000000) (h3 : -1000000000000 - m.toInt ≤ v.toInt) (h4 : v.toInt ≤ 1000000000000 - m.toInt) : (m + v).toInt = m.toInt + v.toInt ∧ -1000000000000 ≤ (m + v).toInt ∧ (m + v).toInt ≤ 1000000000000 := by
  have h := @j_add m v
  generalize (m + v).toInt = z at h ⊢
  generalize m.toInt = w at *
  generalize v.toInt = y at *
  have e := h (by omega) (by omega)
  exact ⟨e, by omega, by omega⟩
set_option maxHeartbeats 1000000 in
theorem cs_post {n na : Nat} {xso mso : Nat → Int32} {X M : Nat → Int64} (hn : n ≤ 12) (hna : na ≤ 12) (hso : ∀ i, i < 12 → xso i = mso i) (h : sOK n na mso X M) (c a p : Int32) (v : Int64) (mt : Int32) : ∃ (r : Int32) (u : Nat → Int64) (u' : Int32 × (Nat → Int64)),
    (∀ post : Int32 → (Nat → Int64) → Prop, post r u → wp_D_post c a p v (nI n) (nI na) xso X post) ∧ (∀ post : Int32 → (Int32 × (Nat → Int64)) → Prop, post r u' → wp_M_post c a p v mt (nI n) (nI na) mso M post) ∧ sOK n na mso u u'.2 := by
  rcases pl_or hn hna c a p with ⟨k, b, j, hk, hb, rfl, rfl, hj⟩ | hno
  · obtain ⟨hj1, hj2⟩ := pRow_lt hn hj
    obtain ⟨s1, s2, s3, s4⟩ := h k j b (by omega) hj1 (by omega)
    have hinb : vp_in (nI b) 12 := vp_in_nI (by omega) (by decide)
    have hneg : p = -1 ↔ j = 0 := by
      rcases hj with ⟨rfl, rfl⟩ | ⟨q, hq, -, rfl, rfl⟩
      · simp
      · exact ⟨fun z => absurd z (ne1 q (by omega)), fun z => by omega⟩
    have hso' := hso b (by omega)
    -- the amount's road, the account taken
    have hD : ∀ (r : Int32) (u : Nat → Int64) (post : Int32 → (Nat → Int64) → Prop), (¬ mso b = 4) → (mso b = 3 → j = 0) → post r u → wp_D_place (nI k) p (nI b) (fun (r24 : Int32) (u24 : Unit) => (vp_in r24 1872 ∧ (∀ x36 : Int64, x36 = (X r24.toNatClampNeg) → (((1000000000000 - x36) < v → post 0 X) ∧ (¬ (1000000000000 - x36) < v → ((((-1000000000000) - x36) ≤ v → (vp_in r24 1872 ∧ post 1 (vp_updL X r24.toNatClampNeg (x36 + v)))) ∧ (¬ ((-1000000000000) - x36) ≤ v → post 0 X))))))) → wp_D_post (nI k) (nI b) p v (nI n) (nI na) xso X post := by
      intro r u post h4 h3 _ hq
      unfold wp_D_post
      refine e_pl1 hn hna hk hb hj ⟨fun z => absurd z (by decide), fun _ => ?_⟩
      unfold wp_D_takes
      refine ⟨hinb, fun x hx => ?_⟩
      rw [nI_clamp (by omega), hso'] at hx
      subst hx
      refine ⟨fun z => absurd z h4, fun _ => ⟨fun _ => ⟨fun _ => hq, fun z => absurd z (by decide)⟩, fun z => ⟨fun w => absurd (hneg.mpr (h3 z)) w, fun _ => ⟨fun _ => hq, fun z => absurd z (by decide)⟩⟩⟩⟩
    have hM : ∀ (post : Int32 → (Int32 × (Nat → Int64)) → Prop), (¬ mso b = 4) → (mso b = 3 → j = 0) → ((2000000000000 < v → post 0 (0, M)) ∧ (¬ 2000000000000 < v → (((-2000000000000) ≤ v → (wp_M_cell (nI k) (nI b) p (fun (r84 : Int32) (u84 : Unit) => (vp_in r84 1872 ∧ (∀ x91 : Int64, x91 = ((M r84.toNatClampNeg) + v) → (wp_M_size x91 (fun (r95 : Int64) (u95 : Unit) => ((r95 ≤ 1000000000000 → (wp_M_cell (nI k) (nI b) p (fun (r114 : Int32) (u114 : Unit) => (vp_in r114 1872 ∧ post 1 (0, (vp_updL M r114.toNatClampNeg x91)))))) ∧ (¬ r95 ≤ 1000000000000 → post 0 (0, M)))))))))) ∧ (¬ (-2000000000000) ≤ v → post 0 (0, M))))) → wp_M_post (nI k) (nI b) p v mt (nI n) (nI na) mso M post := by
      intro post h4 h3 hq
      unfold wp_M_post
      refine f_c1 hk hn ⟨fun z => absurd z (by decide), fun _ => f_a1 hb hna ⟨fun z => absurd z (by decide), fun _ => f_p1 hn hk hj ⟨fun z => absurd z (by decide), fun _ => ⟨hinb, ?_⟩⟩⟩⟩
      rw [nI_clamp (by omega)]
      exact ⟨fun z => absurd z h4, fun _ => ⟨hinb, fun _ => hq, fun z => ⟨fun _ => hq, fun w => absurd (hneg.mpr (h3 z)) w⟩⟩⟩
    by_cases h43 : (¬ mso b = 4) ∧ (mso b = 3 → j = 0)
    · obtain ⟨h4, h3⟩ := h43
      have u1 := j_hi s2 s3
      have u2 := j_lo s2 s3
      have hinD : vp_in (nI ((k * 13 + j) * 12 + b)) 1872 := vp_in_nI (by omega) (by decide)
      have hinM : vp_in (nI (156 * k + 13 * b + j)) 1872 := vp_in_nI (by omega) (by decide)
      by_cases hv : -1000000000000 - (M (156 * k + 13 * b + j)).toInt ≤ v.toInt ∧ v.toInt ≤ 1000000000000 - (M (156 * k + 13 * b + j)).toInt
      · obtain ⟨v1, v2⟩ := hv
        obtain ⟨u3, u4, u5⟩ := j_ad s2 s3 v1 v2
        refine ⟨1, vp_updL X ((k * 13 + j) * 12 + b) (M (156 * k + 13 * b + j) + v), (0, vp_updL M (156 * k + 13 * b + j) (M (156 * k + 13 * b + j) + v)), fun post hp => hD 1 _ post h4 h3 hp ?_, fun post hp => hM post h4 h3 ?_, sOK_set h hk hn hj1 hj2 hb hna h3 u4 u5⟩
        · unfold wp_D_place
          rw [pl_D hj]
          dsimp only
          rw [nI_clamp (by omega)]
          refine ⟨hinD, fun x hx => ?_⟩
          rw [s1] at hx
          subst hx
          simp only [Int64.lt_iff_toInt_lt, Int64.le_iff_toInt_le, u1, u2]
          exact ⟨fun z => by omega, fun _ => ⟨fun _ => ⟨hinD, hp⟩, fun z => absurd v1 z⟩⟩
        · unfold wp_M_cell wp_M_size
          rw [pl_M hj]
          dsimp only
          rw [nI_clamp (by omega)]
          simp only [Int64.lt_iff_toInt_lt, Int64.le_iff_toInt_le, j_1, j_3, j_4, j_0]
          refine ⟨fun z => by omega, fun _ => ⟨fun _ => ⟨hinM, fun x hx => ?_⟩, fun z => absurd (by omega) z⟩⟩
          subst hx
          rw [u3]
          refine ⟨fun _ => ⟨fun _ => ⟨hinM, hp⟩, fun z => absurd (by omega) z⟩, fun w => ?_⟩
          rw [j_neg (by omega), u3]
          exact ⟨fun _ => ⟨hinM, hp⟩, fun z => absurd (by omega) z⟩
      · refine ⟨0, X, (0, M), fun post hp => hD 0 _ post h4 h3 hp ?_, fun post hp => hM post h4 h3 ?_, h⟩
        · unfold wp_D_place
          rw [pl_D hj]
          dsimp only
          rw [nI_clamp (by omega)]
          refine ⟨hinD, fun x hx => ?_⟩
          rw [s1] at hx
          subst hx
          simp only [Int64.lt_iff_toInt_lt, Int64.le_iff_toInt_le, u1, u2]
          exact ⟨fun _ => hp, fun z => ⟨fun w => absurd ⟨w, by omega⟩ hv, fun _ => hp⟩⟩
        · unfold wp_M_cell wp_M_size
          rw [pl_M hj]
          dsimp only
          rw [nI_clamp (by omega)]
          simp only [Int64.lt_iff_toInt_lt, Int64.le_iff_toInt_le, j_1, j_3, j_4, j_0]
          refine ⟨fun _ => hp, fun w1 => ⟨fun w2 => ⟨hinM, fun x hx => ?_⟩, fun _ => hp⟩⟩
          subst hx
          have u3 : (M (156 * k + 13 * b + j) + v).toInt = (M (156 * k + 13 * b + j)).toInt + v.toInt := j_add (by omega) (by omega)
          rw [u3]
          refine ⟨fun w => ⟨fun z => absurd ⟨by omega, by omega⟩ hv, fun _ => hp⟩, fun w => ?_⟩
          rw [j_neg (by omega), u3]
          exact ⟨fun z => absurd ⟨by omega, by omega⟩ hv, fun _ => hp⟩
    · refine ⟨0, X, (0, M), fun post hp => ?_, fun post hp => ?_, h⟩
      · unfold wp_D_post
        refine e_pl1 hn hna hk hb hj ⟨fun z => absurd z (by decide), fun _ => ?_⟩
        unfold wp_D_takes
        refine ⟨hinb, fun x hx => ?_⟩
        rw [nI_clamp (by omega), hso'] at hx
        subst hx
        refine ⟨fun _ => ⟨fun z => absurd rfl z, fun _ => hp⟩, fun w4 => ⟨fun w3 => absurd ⟨w4, fun z => absurd z w3⟩ h43, fun w3 => ⟨fun _ => ⟨fun z => absurd rfl z, fun _ => hp⟩, fun z => absurd ⟨w4, fun _ => hneg.mp z⟩ h43⟩⟩⟩
      · unfold wp_M_post
        refine f_c1 hk hn ⟨fun z => absurd z (by decide), fun _ => f_a1 hb hna ⟨fun z => absurd z (by decide), fun _ => f_p1 hn hk hj ⟨fun z => absurd z (by decide), fun _ => ⟨hinb, ?_⟩⟩⟩⟩
        rw [nI_clamp (by omega)]
        exact ⟨fun _ => hp, fun w4 => ⟨hinb, fun w3 => absurd ⟨w4, fun z => absurd z w3⟩ h43, fun w3 => ⟨fun z => absurd ⟨w4, fun _ => hneg.mp z⟩ h43, fun _ => hp⟩⟩⟩
  · refine ⟨0, X, (0, M), fun post hp => ?_, fun post hp => ?_, h⟩
    · unfold wp_D_post
      exact e_pl0 hn hna hno ⟨fun _ => hp, fun z => absurd rfl z⟩
    · unfold wp_M_post
      rcases hno with h | ⟨k, hk, rfl, h | ⟨b, hb, rfl, h⟩⟩
      · exact f_c0 h ⟨fun _ => hp, fun z => absurd rfl z⟩
      · exact f_c1 hk hn ⟨fun z => absurd z (by decide), fun _ => f_a0 h ⟨fun _ => hp, fun z => absurd rfl z⟩⟩
      · exact f_c1 hk hn ⟨fun z => absurd z (by decide), fun _ => f_a1 hb hna ⟨fun z => absurd z (by decide), fun _ => f_p0 hn h ⟨fun _ => hp, fun z => absurd rfl z⟩⟩⟩
theorem cs_posted {n na : Nat} {mso : Nat → Int32} {X M : Nat → Int64} (hn : n ≤ 12) (hna : na ≤ 12) (h : sOK n na mso X M) (c a p mt : Int32) : (∃ v : Int64, (∀ (post : Int64 → Unit → Prop) (thr : Prop), post v () → wp_D_posted c a p (nI n) (nI na) X post thr) ∧ ∀ post : Int64 → Int32 → Prop, post v 0 → wp_M_posted c a p mt (nI n) (nI na) M post) ∨ ((∀ (post : Int64 → Unit → Prop) (thr : Prop), thr → wp_D_posted c a p (nI n) (nI na) X post thr) ∧ ∀ post : Int64 → Int32 → Prop, post 0 1 → wp_M_posted c a p mt (nI n) (nI na) M post) := by
  rcases pl_or hn hna c a p with ⟨k, b, j, hk, hb, rfl, rfl, hj⟩ | hno
  · obtain ⟨hj1, hj2⟩ := pRow_lt hn hj
    obtain ⟨s1, -⟩ := h k j b (by omega) hj1 (by omega)
    refine Or.inl ⟨M (156 * k + 13 * b + j), fun post thr hp => ?_, fun post hp => ?_⟩
    · unfold wp_D_posted
      refine e_pl1 hn hna hk hb hj ⟨fun _ => ?_, fun z => absurd z (by decide)⟩
      unfold wp_D_place
      rw [pl_D hj]
      dsimp only
      rw [nI_clamp (by omega), s1]
      exact ⟨vp_in_nI (by omega) (by decide), hp⟩
    · unfold wp_M_posted
      refine f_c1 hk hn ⟨fun z => absurd z (by decide), fun _ => f_a1 hb hna ⟨fun z => absurd z (by decide), fun _ => f_p1 hn hk hj ⟨fun z => absurd z (by decide), fun _ => ⟨fun _ => ?_, fun z => absurd z (by decide)⟩⟩⟩⟩
      unfold wp_M_cell
      rw [pl_M hj]
      dsimp only
      rw [nI_clamp (by omega)]
      exact ⟨vp_in_nI (by omega) (by decide), hp⟩
  · refine Or.inr ⟨fun post thr ht => ?_, fun post hp => ?_⟩
    · unfold wp_D_posted
      exact e_pl0 hn hna hno ⟨fun z => absurd rfl z, fun _ => ht⟩
    · unfold wp_M_posted
      have fin : ((¬ (1 : Int32) = 1 → (wp_M_cell c a p (fun (r53 : Int32) (u53 : Unit) => (vp_in r53 1872 ∧ post (M r53.toNatClampNeg) 1)))) ∧ ((1 : Int32) = 1 → post 0 1)) := ⟨fun z => absurd rfl z, fun _ => hp⟩
      rcases hno with h | ⟨k, hk, rfl, h | ⟨b, hb, rfl, h⟩⟩
      · exact f_c0 h ⟨fun _ => fin, fun z => absurd rfl z⟩
      · exact f_c1 hk hn ⟨fun z => absurd z (by decide), fun _ => f_a0 h ⟨fun _ => fin, fun z => absurd rfl z⟩⟩
      · exact f_c1 hk hn ⟨fun z => absurd z (by decide), fun _ => f_a1 hb hna ⟨fun z => absurd z (by decide), fun _ => f_p0 hn h ⟨fun _ => fin, fun z => absurd rfl z⟩⟩⟩
theorem cs_historic {n na : Nat} {xso mso : Nat → Int32} {X M : Nat → Int64} (hn : n ≤ 12) (hna : na ≤ 12) (hso : ∀ i, i < 12 → xso i = mso i) (h : ∀ i, i < 144 → X i = M i) (c a : Int32) (v : Int64) (mt : Int32) : ∃ (r : Int32) (u : Nat → Int64) (u' : Int32 × (Nat → Int64)),
    (∀ post : Int32 → (Nat → Int64) → Prop, post r u → wp_D_historic c a v (nI n) (nI na) xso X post) ∧ (∀ post : Int32 → (Int32 × (Nat → Int64)) → Prop, post r u' → wp_M_historic c a v mt (nI n) (nI na) mso M post) ∧ ∀ i, i < 144 → u i = u'.2 i := by
  by_cases hc : ∃ k b, k < n ∧ b < na ∧ c = nI k ∧ a = nI b ∧ mso b = 3 ∧ ¬ 1000000000000 < v ∧ (-1000000000000) ≤ v
  · obtain ⟨k, b, hk, hb, rfl, rfl, h3, v1, v2⟩ := hc
    have hinb : vp_in (nI b) 12 := vp_in_nI (by omega) (by decide)
    have hin : vp_in (nI (k * 12 + b)) 144 := vp_in_nI (by omega) (by decide)
    refine ⟨1, vp_updL X (k * 12 + b) v, (0, vp_updL M (k * 12 + b) v), fun post hp => ?_, fun post hp => ?_, fun i hi => ?_⟩
    · unfold wp_D_historic
      refine e_c1 hk hn ⟨fun z => absurd z (by decide), fun _ => e_a1 hb hna ⟨fun z => absurd z (by decide), fun _ => ⟨hinb, ?_⟩⟩⟩
      rw [nI_clamp (by omega), hso b (by omega), ix12, nI_clamp (by omega)]
      exact ⟨fun _ => ⟨fun z => absurd z v1, fun _ => ⟨fun _ => ⟨hin, hp⟩, fun z => absurd v2 z⟩⟩, fun z => absurd h3 z⟩
    · unfold wp_M_historic
      refine f_c1 hk hn ⟨fun z => absurd z (by decide), fun _ => f_a1 hb hna ⟨fun z => absurd z (by decide), fun _ => ⟨hinb, ?_⟩⟩⟩
      rw [nI_clamp (by omega), ix12', Nat.mul_comm 12 k, nI_clamp (by omega)]
      exact ⟨fun z => absurd h3 z, fun _ => ⟨fun z => absurd z v1, fun _ => ⟨fun _ => ⟨hin, hp⟩, fun z => absurd v2 z⟩⟩⟩
    · by_cases e : i = k * 12 + b
      · subst e
        show vp_updL X _ v _ = vp_updL M _ v _
        rw [pk_uLs, pk_uLs]
      · show vp_updL X _ v i = vp_updL M _ v i
        rw [pk_uLn e, pk_uLn e]; exact h i hi
  · refine ⟨0, X, (0, M), fun post hp => ?_, fun post hp => ?_, h⟩
    · unfold wp_D_historic
      rcases c_or c hn with ⟨k, hk, rfl⟩ | w
      · rcases c_or a hna with ⟨b, hb, rfl⟩ | w
        · have hinb : vp_in (nI b) 12 := vp_in_nI (by omega) (by decide)
          refine e_c1 hk hn ⟨fun z => absurd z (by decide), fun _ => e_a1 hb hna ⟨fun z => absurd z (by decide), fun _ => ⟨hinb, ?_⟩⟩⟩
          rw [nI_clamp (by omega), hso b (by omega)]
          exact ⟨fun z3 => ⟨fun _ => hp, fun z4 => ⟨fun z5 => absurd ⟨k, b, hk, hb, rfl, rfl, z3, z4, z5⟩ hc, fun _ => hp⟩⟩, fun _ => hp⟩
        · exact e_c1 hk hn ⟨fun z => absurd z (by decide), fun _ => e_a0 w ⟨fun _ => hp, fun z => absurd rfl z⟩⟩
      · exact e_c0 w ⟨fun _ => hp, fun z => absurd rfl z⟩
    · unfold wp_M_historic
      rcases c_or c hn with ⟨k, hk, rfl⟩ | w
      · rcases c_or a hna with ⟨b, hb, rfl⟩ | w
        · have hinb : vp_in (nI b) 12 := vp_in_nI (by omega) (by decide)
          refine f_c1 hk hn ⟨fun z => absurd z (by decide), fun _ => f_a1 hb hna ⟨fun z => absurd z (by decide), fun _ => ⟨hinb, ?_⟩⟩⟩
          rw [nI_clamp (by omega)]
          exact ⟨fun _ => hp, fun z3 => ⟨fun _ => hp, fun z4 => ⟨fun z5 => absurd ⟨k, b, hk, hb, rfl, rfl, z3, z4, z5⟩ hc, fun _ => hp⟩⟩⟩
        · exact f_c1 hk hn ⟨fun z => absurd z (by decide), fun _ => f_a0 w ⟨fun _ => hp, fun z => absurd rfl z⟩⟩
      · exact f_c0 w ⟨fun _ => hp, fun z => absurd rfl z⟩
