/-! pure: a part of an amount, on both sides -/
def sV (n S : Nat) : Nat := (n * S + 5000000000000000) / 10000000000000000
def sR (x : Int64) (S : Nat) : Int64 := if 0 ≤ x then lN (sV x.toInt.natAbs S) else -(lN (sV x.toInt.natAbs S))
theorem d8 {n : Nat} (h : n < 2 ^ 63) : lN n / 100000000 = lN (n / 100000000) := pk_lDiv (b := 100000000) h (by decide) (by decide)
theorem m8 {n : Nat} (h : n < 2 ^ 63) : lN n - lN n / 100000000 * 100000000 = lN (n % 100000000) := pk_lRem (b := 100000000) h (by decide) (by decide)
theorem e8 (n : Nat) : lN n * 100000000 = lN (n * 100000000) := lN_mul n 100000000
theorem p8 {a b A B : Nat} (h1 : a ≤ A) (h2 : b ≤ B) : a * b ≤ A * B := Nat.mul_le_mul h1 h2
set_option maxHeartbeats 1000000 in
theorem sp_timesShare {x : Int64} {S : Nat} (h1 : -400000000000000000 ≤ x.toInt) (h2 : x.toInt ≤ 400000000000000000) (hS : S ≤ 10000000000000000) {post : Int64 → Unit → Prop} (hp : post (sR x S) ()) : wp_D_timesShare x (lN S) post := by
  unfold wp_D_timesShare
  intro x4 h4 x12 h12 x20 h20 x27 h27 x34 h34 x47 h47 x65 h65 x90 h90
  rw [sz_D (by omega)] at h4
  unfold sR at hp
  have hn : x.toInt.natAbs ≤ 400000000000000000 := by omega
  generalize x.toInt.natAbs = n at *
  subst h4
  rw [d8 (by omega)] at h12
  rw [m8 (by omega)] at h20
  rw [d8 (by omega)] at h27
  rw [m8 (by omega)] at h34
  subst h12; subst h20; subst h27; subst h34
  have b1 := p8 (a := n / 100000000) (b := S % 100000000) (A := 4000000000) (B := 100000000) (by omega) (by omega)
  have b2 := p8 (a := n % 100000000) (b := S / 100000000) (A := 100000000) (B := 100000000) (by omega) (by omega)
  have b3 := p8 (a := n % 100000000) (b := S % 100000000) (A := 100000000) (B := 100000000) (by omega) (by omega)
  rw [lN_mul, lN_mul, lN_add] at h47
  subst h47
  rw [m8 (by omega), e8, lN_mul, lN_add] at h65
  subst h65
  have a1 : lN ((n / 100000000 * (S % 100000000) + n % 100000000 * (S / 100000000)) % 100000000 * 100000000 + n % 100000000 * (S % 100000000)) + 5000000000000000 = lN ((n / 100000000 * (S % 100000000) + n % 100000000 * (S / 100000000)) % 100000000 * 100000000 + n % 100000000 * (S % 100000000) + 5000000000000000) := lN_add _ 5000000000000000
  have a2 : lN ((n / 100000000 * (S % 100000000) + n % 100000000 * (S / 100000000)) % 100000000 * 100000000 + n % 100000000 * (S % 100000000) + 5000000000000000) / 10000000000000000 = lN (((n / 100000000 * (S % 100000000) + n % 100000000 * (S / 100000000)) % 100000000 * 100000000 + n % 100000000 * (S % 100000000) + 5000000000000000) / 10000000000000000) := pk_lDiv (b := 10000000000000000) (by omega) (by decide) (by decide)
  rw [lN_mul, d8 (by omega), a1, a2, lN_add, lN_add, rd_cls] at h90
  subst h90
  unfold sV at hp
  exact ⟨fun q => by rw [if_pos q] at hp; exact hp, fun q => by rw [if_neg q] at hp; exact hp⟩
set_option maxHeartbeats 1000000 in
theorem sp_mPart {x : Int64} {S : Nat} (h1 : -400000000000000000 ≤ x.toInt) (h2 : x.toInt ≤ 400000000000000000) (hS : S ≤ 10000000000000000) {post : Int64 → Unit → Prop} (hp : post (sR x S) ()) : wp_M_part x (lN S) post := by
  unfold wp_M_part
  refine sp_size (by omega) ?_
  unfold sR at hp
  have hn : x.toInt.natAbs ≤ 400000000000000000 := by omega
  generalize x.toInt.natAbs = n at *
  intro x12 h12 x24 h24 x36 h36 x43 h43 x50 h50 x57 h57 x71 h71 x85 h85 x106 h106 x116 h116 x135 h135
  rw [m8 (by omega)] at h12
  rw [d8 (by omega), m8 (by omega)] at h24
  rw [d8 (by omega), d8 (by omega)] at h36
  rw [m8 (by omega)] at h43
  rw [d8 (by omega)] at h50
  subst h12; subst h24; subst h36; subst h43; subst h50
  have en : n / 100000000 / 100000000 * 100000000 * 100000000 + n / 100000000 % 100000000 * 100000000 + n % 100000000 = n := by omega
  have eS : S / 100000000 * 100000000 + S % 100000000 = S := Nat.div_add_mod' S 100000000
  unfold sV at hp
  have key := rd_mod (n % 100000000) (n / 100000000 % 100000000) (n / 100000000 / 100000000) (S % 100000000) (S / 100000000) _ _ _ _ _ _ rfl rfl rfl rfl rfl rfl
  rw [en, eS] at key
  rw [← key] at hp
  clear key en eS
  have g1 : n % 100000000 ≤ 100000000 := by omega
  have g2 : n / 100000000 % 100000000 ≤ 100000000 := by omega
  have g4 : S % 100000000 ≤ 100000000 := by omega
  have g5 : S / 100000000 ≤ 100000000 := by omega
  generalize n % 100000000 = a0 at *
  generalize n / 100000000 % 100000000 = a1 at *
  generalize n / 100000000 / 100000000 = a2 at *
  generalize S % 100000000 = b0 at *
  generalize S / 100000000 = b1 at *
  have c1 := p8 g1 g4
  have c2 := p8 g2 g4
  have c3 := p8 g1 g5
  rw [lN_mul] at h57
  subst h57
  rw [lN_mul, d8 (by omega), lN_add] at h71
  subst h71
  have hd1 : a1 * b0 + a0 * b0 / 100000000 < 2 ^ 63 := by omega
  rw [lN_mul, m8 hd1, lN_add] at h85
  subst h85
  have he1 : a0 * b1 + (a1 * b0 + a0 * b0 / 100000000) % 100000000 < 2 ^ 63 := by omega
  rw [lN_mul, d8 hd1, d8 he1, lN_add, lN_add] at h106
  subst h106
  rw [lN_mul, lN_add] at h116
  subst h116
  rw [m8 he1, m8 (n := a0 * b0) (by omega), e8, lN_add] at h135
  subst h135
  rw [lN_mul, e8, lN_add]
  have hlt : (lN ((a0 * b1 + (a1 * b0 + a0 * b0 / 100000000) % 100000000) % 100000000 * 100000000 + a0 * b0 % 100000000) < 5000000000000000) ↔ ((a0 * b1 + (a1 * b0 + a0 * b0 / 100000000) % 100000000) % 100000000 * 100000000 + a0 * b0 % 100000000 < 5000000000000000) := pk_lLT (b := 5000000000000000) (by omega) (by decide)
  rw [hlt]
  refine ⟨fun z y hy => ?_, fun z y hy => ?_⟩
  · rw [if_neg (show ¬ 5000000000000000 ≤ (a0 * b1 + (a1 * b0 + a0 * b0 / 100000000) % 100000000) % 100000000 * 100000000 + a0 * b0 % 100000000 by omega), Nat.add_zero] at hp
    rw [Int64.add_zero] at hy
    subst hy
    exact ⟨fun q => by rw [if_pos q] at hp; exact hp, fun q => by rw [if_neg q] at hp; exact hp⟩
  · rw [if_pos (show 5000000000000000 ≤ (a0 * b1 + (a1 * b0 + a0 * b0 / 100000000) % 100000000) % 100000000 * 100000000 + a0 * b0 % 100000000 by omega)] at hp
    rw [lN_1] at hy
    subst hy
    exact ⟨fun q => by rw [if_pos q] at hp; exact hp, fun q => by rw [if_neg q] at hp; exact hp⟩
