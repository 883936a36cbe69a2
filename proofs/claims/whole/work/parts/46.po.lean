/-! pure: the amounts at the three steps -/
theorem sL_bnd {f : Nat → Int64} {B : Int} (hB : 0 ≤ B) : ∀ {n : Nat}, (∀ i, i < n → -B ≤ (f i).toInt ∧ (f i).toInt ≤ B) → (n : Int) * B < 4000000000000000000 → -((n : Int) * B) ≤ (sL f n).toInt ∧ (sL f n).toInt ≤ (n : Int) * B
  | 0, _, _ => by
    show -(((0 : Nat) : Int) * B) ≤ ((0 : Int64)).toInt ∧ ((0 : Int64)).toInt ≤ ((0 : Nat) : Int) * B
    rw [j_0]; simp
  | n + 1, h, hs => by
    have e : ((n + 1 : Nat) : Int) * B = (n : Int) * B + B := by rw [Int.natCast_add, Int.add_mul]; simp
    rw [e] at hs ⊢
    have h1 := sL_bnd hB (n := n) (fun i hi => h i (by omega)) (by omega)
    have h2 := h n (by omega)
    have e2 : (sL f (n + 1)).toInt = (sL f n).toInt + (f n).toInt := by
      show (sL f n + f n).toInt = _
      exact j_add (by omega) (by omega)
    rw [e2]
    omega
def aA (ctl : Nat → Bool) (n na r : Nat) (mcur mso mcl mav : Nat → Int32) (M T : Nat → Int64) (c p a : Nat) : Int64 := if ctl c = true then tRow n na r mcur mso mcl mav M T c p a else 0
def zr (n na : Nat) (V : Nat → Nat → Nat → Int64) : Prop := ∀ c p a, c < 12 → p < 13 → a < 12 → (n ≤ c ∨ n < p ∨ na ≤ a) → V c p a = 0
theorem aA_zr {n na r : Nat} {xcur mcur xso mso xcl xav mcl mav : Nat → Int32} {X M T : Nat → Int64} (K : kOK n na r xcur mcur xso mso xcl xav mcl mav X M T) {ctl : Nat → Bool} (hctl : ∀ c, ctl c = true → c < n) : zr n na (aA ctl n na r mcur mso mcl mav M T) := by
  intro c p a hc hp ha h
  unfold aA
  by_cases z : ctl c = true
  · rw [if_pos z]
    have := hctl c z
    unfold tRow
    by_cases w : a < na
    · rw [if_pos w, if_neg (by omega), trV_far K hc hp ha (by omega)]
    · rw [if_neg w]
  · rw [if_neg z]
theorem aA_bnd {n na r : Nat} {xcur mcur xso mso xcl xav mcl mav : Nat → Int32} {X M T : Nat → Int64} (K : kOK n na r xcur mcur xso mso xcl xav mcl mav X M T) {ctl : Nat → Bool} (hctl : ∀ c, ctl c = true → c < n) : ∀ c p a, ctl c = true → c < 12 → 1 ≤ p → p < 13 → a < 12 → bnd (aA ctl n na r mcur mso mcl mav M T c p a) := by
  intro c p a z hc h1 hp ha
  unfold aA tRow bnd
  rw [if_pos z]
  by_cases w : a < na
  · rw [if_pos w, if_neg (by omega)]
    exact trV_le K (hctl c z) hp ha (Or.inr (by omega))
  · rw [if_neg w, j_0]; omega
theorem eE_zr {n na : Nat} {A : Nat → Nat → Nat → Int64} {ctl : Nat → Bool} (hctl : ∀ c, ctl c = true → c < n) (h : zr n na A) : zr n na (eE ctl na A) := by
  intro c p a hc hp ha hz
  rw [eE_0]
  · exact h c p a hc hp ha hz
  · rintro ⟨z1, z2, z3, z4, z5⟩
    have := hctl _ z3
    have := hctl _ z4
    omega
def fF (ctl : Nat → Bool) (r : Nat) (E : Nat → Nat → Nat → Int64) (g : Nat → Int64) (c p a : Nat) : Int64 := if ctl c = true ∧ p = 0 ∧ a = r then E c 0 r + g c else E c p a
theorem fF_zr {n na r : Nat} {E : Nat → Nat → Nat → Int64} {g : Nat → Int64} {ctl : Nat → Bool} (hr : r < na) (hctl : ∀ c, ctl c = true → c < n) (h : zr n na E) : zr n na (fF ctl r E g) := by
  intro c p a hc hp ha hz
  unfold fF
  rw [if_neg]
  · exact h c p a hc hp ha hz
  · rintro ⟨z1, z2, z3⟩
    have := hctl _ z1
    omega
theorem rdS_all {n na k : Nat} (hn : n ≤ 12) (hna : na ≤ 12) {V : Nat → Nat → Nat → Int64} (hz : zr n na V) {S0 S : Nat → Int64} (h : rdS k na V S0 S (fun c _ => if c < n then n + 1 else 0)) {c a : Nat} (hc : c < 12) (ha : a < 12) : S (144 * k + 12 * c + a) = sL (fun p => V c p a) 13 := by
  rw [h.1 c a hc ha]
  by_cases w : a < na
  · rw [if_pos w]
    dsimp only
    by_cases z : c < n
    · rw [if_pos z]
      exact (sL_more (by omega) fun p h1 h2 => hz c p a hc h2 ha (by omega)).symm
    · rw [if_neg z]
      exact (sL_zero fun p hp => hz c p a hc hp ha (by omega)).symm
  · rw [if_neg w]
    exact (sL_zero fun p hp => hz c p a hc hp ha (by omega)).symm
theorem net_bnd {n na r : Nat} {xcur mcur xso mso xcl xav mcl mav : Nat → Int32} {X M T : Nat → Int64} (K : kOK n na r xcur mcur xso mso xcl xav mcl mav X M T) {ctl : Nat → Bool} (hctl : ∀ c, ctl c = true → c < n) {St : Nat → Int64} {c : Nat} (hc : c < 12) (hz : ctl c = true) (hSt : ∀ a, a < 12 → St (12 * c + a) = sL (fun p => aA ctl n na r mcur mso mcl mav M T c p a) 13) : -400000000000000000 ≤ (net na mso St c na).toInt ∧ (net na mso St c na).toInt ≤ 400000000000000000 := by
  have hna := K.2.2.1
  have hcn := hctl c hz
  have h9 := K.2.2.2.2.2.2.2.2.1
  have hcell : ∀ a, a < na → -26000000000000000 ≤ ((fun a => if mso a = 1 then St (12 * c + a) else 0) a : Int64).toInt ∧ ((fun a => if mso a = 1 then St (12 * c + a) else 0) a : Int64).toInt ≤ 26000000000000000 := by
    intro a ha
    dsimp only
    by_cases w : mso a = 1
    · rw [if_pos w, hSt a (by omega)]
      have := sL_bnd (f := fun p => aA ctl n na r mcur mso mcl mav M T c p a) (B := 2000000000000000) (by omega) (n := 13) (fun p hp => by
        unfold aA tRow
        rw [if_pos hz, if_pos ha, if_neg (fun z => by
          have := (h9 a ha).mpr z.1
          rw [w] at this
          exact absurd this (by decide))]
        exact trV_le K hcn hp (by omega) (Or.inl w)) (by decide)
      omega
    · rw [if_neg w, j_0]; omega
  have := sL_bnd (B := 26000000000000000) (by omega) (n := na) hcell (by omega)
  unfold net
  generalize (sL (fun a => if mso a = 1 then St (12 * c + a) else 0) na).toInt = v at *
  omega
theorem net_eq {na c : Nat} {mso : Nat → Int32} {S1 S2 : Nat → Int64} (hna : na ≤ 12) (h : ∀ a, a < 12 → S1 (12 * c + a) = S2 (12 * c + a)) : net na mso S1 c na = net na mso S2 c na :=
  sL_congr fun a ha => by rw [h a (by omega)]
theorem sR_0 (x : Int64) : sR x 0 = 0 := by
  unfold sR sV
  rw [Nat.mul_zero]
  by_cases q : 0 ≤ x
  · rw [if_pos q]; rfl
  · rw [if_neg q]; rfl
