/-! pure: roundings, places, the translation of a book on both sides -/
theorem sz_abs {x : Int64} (h : -9223372036854775808 < x.toInt) : x.toInt.natAbs < 9223372036854775808 ∧ (0 ≤ x.toInt → x = lN x.toInt.natAbs) ∧ (x.toInt ≤ 0 → -x = lN x.toInt.natAbs) := by
  have hl := Int64.toInt_lt x
  have hn : x.toInt.natAbs < 2 ^ 63 := by omega
  refine ⟨hn, fun q => Int64.toInt_inj.mp ?_, fun q => Int64.toInt_inj.mp ?_⟩
  · rw [pk_lT hn]; omega
  · rw [pk_lT hn, j_neg h]; omega
theorem ge0i {x : Int64} : 0 ≤ x ↔ 0 ≤ x.toInt := by rw [Int64.le_iff_toInt_le, j_0]
theorem gt0i {x : Int64} : 0 < x ↔ 0 < x.toInt := by rw [Int64.lt_iff_toInt_lt, j_0]
theorem sz_D {x : Int64} (h : -9223372036854775808 < x.toInt) : (if 0 < x then x else -x) = lN x.toInt.natAbs := by
  obtain ⟨-, h1, h2⟩ := sz_abs h
  by_cases q : 0 < x
  · rw [if_pos q]; exact h1 (by have := gt0i.mp q; omega)
  · rw [if_neg q]; exact h2 (by have := _root_.mt gt0i.mpr q; omega)
theorem sp_size {x : Int64} (h : -9223372036854775808 < x.toInt) {post : Int64 → Unit → Prop} (hp : post (lN x.toInt.natAbs) ()) : wp_M_size x post := by
  obtain ⟨-, h1, h2⟩ := sz_abs h
  unfold wp_M_size
  refine ⟨fun q => ?_, fun q => ?_⟩
  · rw [← h1 (ge0i.mp q)] at hp; exact hp
  · rw [← h2 (by have := _root_.mt ge0i.mpr q; omega)] at hp; exact hp
def tV (n r : Nat) : Nat := n / 1000000 * r + (n % 1000000 * r + 500000) / 1000000
def tR (x : Int64) (r : Nat) : Int64 := if 0 ≤ x then lN (tV x.toInt.natAbs r) else -(lN (tV x.toInt.natAbs r))
theorem tV_le {n r : Nat} (hn : n ≤ 1000000000000) (hr : r ≤ 1000000000) : n / 1000000 * r ≤ 1000000000000000 ∧ n % 1000000 * r ≤ 1000000000000000 ∧ tV n r ≤ 2000000000000000 := by
  have h1 : n / 1000000 * r ≤ 1000000 * 1000000000 := Nat.mul_le_mul (by omega) hr
  have h2 : n % 1000000 * r ≤ 1000000 * 1000000000 := Nat.mul_le_mul (by omega) hr
  unfold tV
  generalize n / 1000000 * r = y at *
  generalize n % 1000000 * r = z at *
  omega
theorem tR_0 (r : Nat) : tR 0 r = 0 := by
  unfold tR
  rw [if_pos (by decide), j_0]
  show lN (0 / 1000000 * r + (0 % 1000000 * r + 500000) / 1000000) = 0
  rw [Nat.zero_div, Nat.zero_mod, Nat.zero_mul]
  rfl
theorem tR_le {x : Int64} {r : Nat} (h1 : -1000000000000 ≤ x.toInt) (h2 : x.toInt ≤ 1000000000000) (hr : r ≤ 1000000000) : -2000000000000000 ≤ (tR x r).toInt ∧ (tR x r).toInt ≤ 2000000000000000 := by
  have hv := (tV_le (n := x.toInt.natAbs) (by omega) hr).2.2
  unfold tR
  by_cases q : 0 ≤ x
  · rw [if_pos q, pk_lT (by omega)]; omega
  · rw [if_neg q, j_neg (by rw [pk_lT (by omega)]; omega), pk_lT (by omega)]; omega
theorem sp_timesRate {x : Int64} {r : Nat} (h1 : -1000000000000 ≤ x.toInt) (h2 : x.toInt ≤ 1000000000000) (hr : r ≤ 1000000000) {post : Int64 → Unit → Prop} (hp : post (tR x r) ()) : wp_D_timesRate x (nI r) post := by
  obtain ⟨b1, b2, b3⟩ := tV_le (n := x.toInt.natAbs) (r := r) (by omega) hr
  unfold wp_D_timesRate
  intro x4 h4 x13 h13 x23 h23 x38 h38
  rw [sz_D (by omega)] at h4
  unfold tR at hp
  have hn : x.toInt.natAbs < 2 ^ 63 := by omega
  generalize x.toInt.natAbs = n at *
  subst h4
  have d1 : lN n / 1000000 = lN (n / 1000000) := pk_lDiv (b := 1000000) hn (by decide) (by decide)
  have m1 : lN n - lN n / 1000000 * 1000000 = lN (n % 1000000) := pk_lRem (b := 1000000) hn (by decide) (by decide)
  rw [d1, nI_l (by omega), lN_mul] at h13
  rw [m1, nI_l (by omega), lN_mul] at h23
  subst h13; subst h23
  have a1 : lN (n % 1000000 * r) + 500000 = lN (n % 1000000 * r + 500000) := lN_add _ 500000
  have d2 : lN (n % 1000000 * r + 500000) / 1000000 = lN ((n % 1000000 * r + 500000) / 1000000) := pk_lDiv (b := 1000000) (by omega) (by decide) (by decide)
  rw [a1, d2, lN_add] at h38
  subst h38
  exact ⟨fun q => by rw [if_pos q] at hp; exact hp, fun q => by rw [if_neg q] at hp; exact hp⟩
theorem sp_mTranslated {x : Int64} {r : Nat} (h1 : -1000000000000 ≤ x.toInt) (h2 : x.toInt ≤ 1000000000000) (hr : r ≤ 1000000000) {post : Int64 → Unit → Prop} (hp : post (tR x r) ()) : wp_M_translated x (nI r) post := by
  obtain ⟨b1, b2, b3⟩ := tV_le (n := x.toInt.natAbs) (r := r) (by omega) hr
  unfold wp_M_translated
  refine sp_size (by omega) ?_
  unfold tR tV at hp
  have hn : x.toInt.natAbs < 2 ^ 63 := by omega
  generalize x.toInt.natAbs = n at *
  intro x13 h13
  have d1 : lN n / 1000000 = lN (n / 1000000) := pk_lDiv (b := 1000000) hn (by decide) (by decide)
  have m1 : lN n - lN n / 1000000 * 1000000 = lN (n % 1000000) := pk_lRem (b := 1000000) hn (by decide) (by decide)
  rw [m1, nI_l (by omega), lN_mul] at h13
  subst h13
  rw [rd_rate] at hp
  rw [d1, nI_l (by omega), lN_mul]
  have d2 : lN (n % 1000000 * r) / 1000000 = lN (n % 1000000 * r / 1000000) := pk_lDiv (b := 1000000) (by omega) (by decide) (by decide)
  have m2 : lN (n % 1000000 * r) - lN (n % 1000000 * r) / 1000000 * 1000000 = lN (n % 1000000 * r % 1000000) := pk_lRem (b := 1000000) (by omega) (by decide) (by decide)
  have c2 : lN (n % 1000000 * r % 1000000) < 500000 ↔ n % 1000000 * r % 1000000 < 500000 := pk_lLT (b := 500000) (by omega) (by decide)
  rw [m2, d2, lN_add, c2]
  refine ⟨fun z y hy => ?_, fun z y hy => ?_⟩
  · rw [if_neg (show ¬ 500000 ≤ n % 1000000 * r % 1000000 by omega), Nat.add_zero] at hp
    rw [Int64.add_zero] at hy
    subst hy
    exact ⟨fun q => by rw [if_pos q] at hp; exact hp, fun q => by rw [if_neg q] at hp; exact hp⟩
  · rw [if_pos (show 500000 ≤ n % 1000000 * r % 1000000 by omega)] at hp
    rw [lN_1] at hy
    subst hy
    exact ⟨fun q => by rw [if_pos q] at hp; exact hp, fun q => by rw [if_neg q] at hp; exact hp⟩
/-! places -/
theorem cD {c j a : Nat} {i : Int32} (h : i + 1 = nI j) : (((nI c * 13) + i) + 1) * 12 + nI a = nI ((c * 13 + j) * 12 + a) := by
  rw [Int32.add_assoc, h, show (13 : Int32) = nI 13 from rfl, pk_mul, nI_add, ix12]
theorem cM {c j a : Nat} {i : Int32} (h : i + 1 = nI j) : (((156 * nI c) + (13 * nI a)) + i) + 1 = nI (156 * c + 13 * a + j) := by
  rw [Int32.add_assoc, h, show (156 : Int32) = nI 156 from rfl, show (13 : Int32) = nI 13 from rfl, pk_mul, pk_mul, nI_add, nI_add]
theorem pm_eq {i : Int32} {j : Nat} (h : i + 1 = nI j) : i = nI j - 1 := by rw [← h]; simp
theorem pm_le {i : Int32} {j n : Nat} (h : i + 1 = nI j) (hj : j < 2 ^ 31) (hn : n < 2 ^ 31) : nI n ≤ i ↔ n + 1 ≤ j := by
  rw [pm_eq h, Int32.le_iff_toInt_le, nI_toInt hn]
  by_cases z : j = 0
  · subst z
    have : (nI 0 - 1).toInt = -1 := by decide
    omega
  · obtain ⟨j', rfl⟩ : ∃ j', j = j' + 1 := ⟨j - 1, by omega⟩
    rw [nI_pred, nI_toInt (by omega)]; omega
theorem pm_m1 {i : Int32} {j : Nat} (h : i + 1 = nI j) (hj : j < 2 ^ 31) : i = -1 ↔ j = 0 := by
  constructor
  · intro z
    rw [z] at h
    have h : nI 0 = nI j := h
    have := (nI_eq (a := 0) (b := j) (by omega) hj).mp h
    omega
  · intro z
    subst z
    rw [pm_eq h]; decide
theorem m1_0 : (-1 : Int32) + 1 = nI 0 := by decide
theorem pm_mu {i : Int32} {j N : Nat} (h : i + 1 = nI j) (hj : j < N) (hN : N < 2 ^ 31) : N - (i + 1 + 1).toNatClampNeg < N - (i + 1).toNatClampNeg := by
  rw [h, nI_1, nI_clamp (by omega), nI_clamp (by omega)]; omega
theorem sp_add {X : Nat → Int64} {c j a : Nat} {i : Int32} (h : i + 1 = nI j) (hc : c < 12) (hj : j < 13) (ha : a < 12) {v : Int64} {post : (Nat → Int64) → Prop} (hp : post (vp_updL X ((c * 13 + j) * 12 + a) (X ((c * 13 + j) * 12 + a) + v))) : wp_R_add (nI c) i (nI a) v X post := by
  unfold wp_R_add wp_D_place
  rw [cD h]
  dsimp only
  rw [nI_clamp (by omega)]
  exact ⟨vp_in_nI (by omega) (by decide), vp_in_nI (by omega) (by decide), hp⟩
theorem sp_total {L : Nat → Int64} {f : Nat → Int64} {c b : Nat} (hc : c < 12) (hb : b < 12) (h : ∀ p, p < 13 → L (156 * c + 13 * b + p) = f p) {post : Int64 → Unit → Prop} (hp : post (sL f 13) ()) : wp_M_total (nI c) (nI b) L post := by
  unfold wp_M_total
  refine ⟨fun t i => ∃ k : Nat, k ≤ 13 ∧ t = sL f k ∧ i = nI k, fun _ i => 13 - i.toNatClampNeg, ⟨0, by omega, rfl, rfl⟩, ?_⟩
  rintro t i ⟨k, hk, rfl, rfl⟩
  refine ⟨fun hc => ?_, fun hc => ?_⟩
  · have := q_ex (n := 13) (by decide) hk hc
    subst this
    exact hp
  · have hk' := q_in (n := 13) (by decide) hk hc
    rw [show ((156 * nI c) + (13 * nI b)) + nI k = nI (156 * c + 13 * b + k) by rw [show (156 : Int32) = nI 156 from rfl, show (13 : Int32) = nI 13 from rfl, pk_mul, pk_mul, nI_add, nI_add], nI_clamp (by omega), nI_1, h k hk']
    exact ⟨vp_in_nI (by omega) (by decide), fun x hx => ⟨⟨k + 1, by omega, hx, rfl⟩, q_mu hk' (by decide)⟩⟩
/-! the translation -/
def rN (f : Nat → Int32) (i : Nat) : Nat := (f i).toNatClampNeg
def trV (mcur mso mcl mav : Nat → Int32) (M T : Nat → Int64) (c p a : Nat) : Int64 :=
  if mso a = 1 then tR (M (156 * c + 13 * a + p)) (rN mcl (rN mcur c))
  else if mso a = 2 then tR (M (156 * c + 13 * a + p)) (rN mav (rN mcur c))
  else if mso a = 3 then (if p = 0 then (if rN mcur c = 0 then M (156 * c + 13 * a + 0) else T (c * 12 + a)) else 0)
  else 0
/-- all that a run of consolidate rests on -/
def kOK (n na r : Nat) (xcur mcur xso mso xcl xav mcl mav : Nat → Int32) (X M T : Nat → Int64) : Prop :=
  1 ≤ n ∧ n ≤ 12 ∧ na ≤ 12 ∧ r < na ∧ (∀ i, i < 12 → xcur i = mcur i) ∧ (∀ i, i < n → rN mcur i < 4 ∧ mcur i = nI (rN mcur i)) ∧ (∀ i, i < 12 → xso i = mso i) ∧ (∀ i, i < na → (mso i = 1 ∨ mso i = 2 ∨ mso i = 3 ∨ mso i = 4)) ∧ (∀ i, i < na → (mso i = 4 ↔ i = r)) ∧ (∀ q, q < 4 → xcl q = mcl q ∧ xav q = mav q ∧ mcl q = nI (rN mcl q) ∧ rN mcl q ≤ 1000000000 ∧ mav q = nI (rN mav q) ∧ rN mav q ≤ 1000000000) ∧ sOK n na mso X M
theorem trV_far {n na r : Nat} {xcur mcur xso mso xcl xav mcl mav : Nat → Int32} {X M T : Nat → Int64} (K : kOK n na r xcur mcur xso mso xcl xav mcl mav X M T) {c p a : Nat} (hc : c < 12) (hp : p < 13) (ha : a < 12) (h : n < p) : trV mcur mso mcl mav M T c p a = 0 := by
  obtain ⟨k1, k2, k3, k4, k5, k6, k7, k8, k9, k10, k11⟩ := K
  have z := (k11 c p a hc hp ha).2.2.2 (Or.inr (Or.inl h))
  unfold trV
  rw [z, tR_0, tR_0, if_neg (show ¬ p = 0 by omega)]
  simp
theorem trV_res {n na r : Nat} {xcur mcur xso mso xcl xav mcl mav : Nat → Int32} {X M T : Nat → Int64} (K : kOK n na r xcur mcur xso mso xcl xav mcl mav X M T) {c p : Nat} : trV mcur mso mcl mav M T c p r = 0 := by
  obtain ⟨k1, k2, k3, k4, k5, k6, k7, k8, k9, k10, k11⟩ := K
  have e := (k9 r k4).mpr rfl
  unfold trV
  rw [e, if_neg (by decide), if_neg (by decide), if_neg (by decide)]
theorem trV_le {n na r : Nat} {xcur mcur xso mso xcl xav mcl mav : Nat → Int32} {X M T : Nat → Int64} (K : kOK n na r xcur mcur xso mso xcl xav mcl mav X M T) {c p a : Nat} (hc : c < n) (hp : p < 13) (ha : a < 12) (h : mso a = 1 ∨ 0 < p) : -2000000000000000 ≤ (trV mcur mso mcl mav M T c p a).toInt ∧ (trV mcur mso mcl mav M T c p a).toInt ≤ 2000000000000000 := by
  obtain ⟨k1, k2, k3, k4, k5, k6, k7, k8, k9, k10, k11⟩ := K
  obtain ⟨-, s2, s3, -⟩ := k11 c p a (by omega) hp ha
  obtain ⟨q1, q2⟩ := k6 c hc
  obtain ⟨r1, r2, r3, r4, r5, r6⟩ := k10 _ q1
  unfold trV
  by_cases e1 : mso a = 1
  · rw [if_pos e1]; exact tR_le s2 s3 r4
  · rw [if_neg e1]
    by_cases e2 : mso a = 2
    · rw [if_pos e2]; exact tR_le s2 s3 r6
    · rw [if_neg e2]
      by_cases e3 : mso a = 3
      · rw [if_pos e3, if_neg (show ¬ p = 0 by rcases h with h | h; exact absurd h e1; omega), j_0]; omega
      · rw [if_neg e3, j_0]; omega
theorem sp_tsum {n na r : Nat} {xcur mcur xso mso xcl xav mcl mav : Nat → Int32} {X M T : Nat → Int64} (K : kOK n na r xcur mcur xso mso xcl xav mcl mav X M T) {c j a : Nat} {i : Int32} (h : i + 1 = nI j) (hc : c < n) (hj : j < 13) (ha : a < na) {post : Int64 → Unit → Prop} (hp : post (trV mcur mso mcl mav M T c j a) ()) : wp_D_translatedSum (nI c) i (nI a) xcur xso xcl xav X T post := by
  obtain ⟨k1, k2, k3, k4, k5, k6, k7, k8, k9, k10, k11⟩ := K
  obtain ⟨s1, s2, s3, s4⟩ := k11 c j a (by omega) hj (by omega)
  obtain ⟨q1, q2⟩ := k6 c hc
  obtain ⟨r1, r2, r3, r4, r5, r6⟩ := k10 _ q1
  unfold wp_D_translatedSum wp_D_place
  rw [cD h]
  dsimp only
  rw [nI_clamp (by omega), nI_clamp (by omega), nI_clamp (by omega), s1, k5 c (by omega), k7 a (by omega), q2]
  refine ⟨vp_in_nI (by omega) (by decide), fun x hx => ⟨vp_in_nI (by omega) (by decide), fun y hy => ⟨vp_in_nI (by omega) (by decide), fun z hz => ?_⟩⟩⟩
  subst hx; subst hy; subst hz
  rw [nI_clamp (by omega), r1, r2, r3, r5]
  unfold trV at hp
  refine ⟨fun e => ?_, fun e => ?_, fun e => ?_, fun e1 e2 e3 => ?_⟩
  · rw [if_pos e] at hp
    exact ⟨vp_in_nI (by omega) (by decide), sp_timesRate s2 s3 r4 hp⟩
  · rw [if_neg (by rw [e]; decide), if_pos e] at hp
    exact ⟨vp_in_nI (by omega) (by decide), sp_timesRate s2 s3 r6 hp⟩
  · rw [if_neg (by rw [e]; decide), if_neg (by rw [e]; decide), if_pos e] at hp
    refine ⟨fun w => ?_, fun w => ?_⟩
    · have w : ¬ rN mcur c = 0 := fun z => w (by rw [z]; rfl)
      refine ⟨fun z => ?_, fun z => ?_⟩
      · rw [if_neg (fun q => z ((pm_m1 h (by omega)).mpr q))] at hp
        exact hp
      · rw [if_pos ((pm_m1 h (by omega)).mp z), if_neg w] at hp
        rw [ix12, nI_clamp (by omega)]
        exact ⟨vp_in_nI (by omega) (by decide), hp⟩
    · have w := (nI_eq (a := rN mcur c) (b := 0) (by omega) (by omega)).mp w
      by_cases z : j = 0
      · rw [if_pos z, if_pos w] at hp
        rw [z]; exact hp
      · rw [if_neg z] at hp
        rw [s4 (Or.inr (Or.inr (Or.inr ⟨e, by omega⟩)))]
        exact hp
  · rw [if_neg e1, if_neg e2, if_neg e3] at hp
    exact hp
