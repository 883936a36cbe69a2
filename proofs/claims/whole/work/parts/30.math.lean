/-! pure: holdings as a table of numbers h owner owned: chains (mE), control (mC), weights of chains (mW) -/
def mS (f : Nat → Nat) : Nat → Nat
  | 0 => 0
  | n + 1 => mS f n + f n
theorem mS_le {f g : Nat → Nat} : ∀ {n : Nat}, (∀ i, i < n → f i ≤ g i) → mS f n ≤ mS g n
  | 0, _ => Nat.le_refl _
  | n + 1, h => Nat.add_le_add (mS_le (n := n) fun i hi => h i (by omega)) (h n (by omega))
theorem mS_congr {f g : Nat → Nat} {n : Nat} (h : ∀ i, i < n → f i = g i) : mS f n = mS g n :=
  Nat.le_antisymm (mS_le fun i hi => Nat.le_of_eq (h i hi)) (mS_le fun i hi => Nat.le_of_eq (h i hi).symm)
theorem mS_pos {f : Nat → Nat} : ∀ {n : Nat}, 0 < mS f n → ∃ i, i < n ∧ 0 < f i
  | 0, h => absurd h (Nat.lt_irrefl _)
  | n + 1, h => by
    by_cases hz : 0 < f n
    · exact ⟨n, by omega, hz⟩
    · obtain ⟨i, h1, h2⟩ := mS_pos (n := n) (f := f) (by have : mS f (n + 1) = mS f n + f n := rfl; omega)
      exact ⟨i, by omega, h2⟩
theorem mS_mem {f : Nat → Nat} {i : Nat} : ∀ {n : Nat}, i < n → f i ≤ mS f n
  | 0, h => absurd h (Nat.not_lt_zero _)
  | n + 1, h => by
    have e : mS f (n + 1) = mS f n + f n := rfl
    by_cases hi : i = n
    · subst hi; omega
    · have := mS_mem (f := f) (n := n) (i := i) (by omega); omega
theorem mS_zero {f : Nat → Nat} : ∀ {n : Nat}, (∀ i, i < n → f i = 0) → mS f n = 0
  | 0, _ => rfl
  | n + 1, h => by
    have e : mS f (n + 1) = mS f n + f n := rfl
    rw [e, mS_zero (n := n) fun i hi => h i (by omega), h n (by omega)]
theorem mS_mul (k : Nat) {f : Nat → Nat} : ∀ {n : Nat}, mS (fun i => k * f i) n = k * mS f n
  | 0 => rfl
  | n + 1 => by
    show mS (fun i => k * f i) n + k * f n = k * (mS f n + f n)
    rw [mS_mul k (n := n), Nat.mul_add]
theorem mS_add {f g : Nat → Nat} : ∀ {n : Nat}, mS (fun i => f i + g i) n = mS f n + mS g n
  | 0 => rfl
  | n + 1 => by
    show mS (fun i => f i + g i) n + (f n + g n) = (mS f n + f n) + (mS g n + g n)
    rw [mS_add (n := n)]; omega
/-- a chain of k links ends at v -/
def mE (h : Nat → Nat → Nat) : Nat → Nat → Prop
  | 0, _ => True
  | k + 1, v => ∃ o, o < 12 ∧ mE h k o ∧ 0 < h o v
theorem mE_down {h : Nat → Nat → Nat} {k v : Nat} (q : mE h (k + 1) v) : ∃ o, o < 12 ∧ mE h k o := by
  obtain ⟨o, h1, h2, -⟩ := q
  exact ⟨o, h1, h2⟩
theorem mE_some {h : Nat → Nat → Nat} {j : Nat} : ∀ {k : Nat}, j ≤ k → (∃ v, v < 12 ∧ mE h k v) → ∃ v, v < 12 ∧ mE h j v
  | 0, hj, ⟨v, h1, h2⟩ => by
    have : j = 0 := by omega
    subst this; exact ⟨v, h1, h2⟩
  | k + 1, hj, ⟨v, h1, h2⟩ => by
    by_cases e : j = k + 1
    · subst e; exact ⟨v, h1, h2⟩
    · exact mE_some (k := k) (by omega) (mE_down h2)
/-- no chain of five links -/
def mOK (h : Nat → Nat → Nat) : Prop := ∀ v, v < 12 → ¬ mE h 5 v
theorem mOK_all {h : Nat → Nat → Nat} (q : mOK h) {k v : Nat} (hk : 5 ≤ k) (hv : v < 12) : ¬ mE h k v := by
  intro z
  obtain ⟨w, h1, h2⟩ := mE_some hk ⟨v, hv, z⟩
  exact q w h1 h2
/-- who is under control after k rounds -/
def mC (h : Nat → Nat → Nat) : Nat → Nat → Bool
  | 0, v => v == 0
  | k + 1, v => mC h k v || decide (5000 < mS (fun o => if mC h k o then h o v else 0) 12)
theorem mC_up {h : Nat → Nat → Nat} {k v : Nat} (q : mC h k v = true) : mC h (k + 1) v = true := by
  simp [mC, q]
theorem mC_mono {h : Nat → Nat → Nat} {v j : Nat} : ∀ {k : Nat}, j ≤ k → mC h j v = true → mC h k v = true
  | 0, hj, q => by
    have : j = 0 := by omega
    subst this; exact q
  | k + 1, hj, q => by
    by_cases e : j = k + 1
    · subst e; exact q
    · exact mC_up (mC_mono (k := k) (by omega) q)
theorem mC_step {h : Nat → Nat → Nat} {k v : Nat} (q : 5000 < mS (fun o => if mC h k o then h o v else 0) 12) : mC h (k + 1) v = true := by
  simp [mC, q]
theorem mC_deep {h : Nat → Nat → Nat} : ∀ (k v : Nat), ¬ mE h (k + 1) v → ∀ n, mC h n v = true → mC h k v = true := by
  intro k
  induction k with
  | zero =>
    intro v hE n
    induction n with
    | zero => exact id
    | succ n ih =>
      intro q
      simp only [mC, Bool.or_eq_true, decide_eq_true_eq] at q
      rcases q with q | q
      · exact ih q
      · obtain ⟨o, h1, h2⟩ := mS_pos (Nat.lt_of_le_of_lt (Nat.zero_le _) q)
        exact absurd ⟨o, h1, trivial, by
          by_cases z : mC h n o = true
          · simpa [z] using h2
          · simp [z] at h2⟩ hE
  | succ k ih =>
    intro v hE n
    induction n with
    | zero => exact fun q => mC_mono (Nat.zero_le _) q
    | succ n ihn =>
      intro q
      have q0 := q
      simp only [mC, Bool.or_eq_true, decide_eq_true_eq] at q
      rcases q with q | q
      · exact ihn q
      · refine mC_step (Nat.lt_of_lt_of_le q (mS_le fun o ho => ?_))
        by_cases z : mC h n o = true
        · by_cases hz : 0 < h o v
          · have hd : mC h k o = true := ih o (fun w => hE ⟨o, ho, w, hz⟩) n z
            simp [z, hd]
          · have : h o v = 0 := by omega
            simp [this]
        · simp [z]
theorem mC_stable {h : Nat → Nat → Nat} (q : mOK h) {n v : Nat} (hv : v < 12) (z : mC h n v = true) : mC h 4 v = true := mC_deep 4 v (q v hv) n z
theorem mC_closed {h : Nat → Nat → Nat} (q : mOK h) {X : Nat → Bool} (hX : ∀ o, o < 12 → X o = true → mC h 4 o = true) {v : Nat} (hv : v < 12) (z : 5000 < mS (fun o => if X o then h o v else 0) 12) : mC h 4 v = true := by
  refine mC_stable q (n := 5) hv (mC_step (Nat.lt_of_lt_of_le z (mS_le fun o ho => ?_)))
  by_cases w : X o = true
  · simp [w, hX o ho w]
  · simp [w]
/-- the weights of the chains of k links from 0 to v -/
def mW (h : Nat → Nat → Nat) : Nat → Nat → Nat
  | 0, v => if v = 0 then 1 else 0
  | k + 1, v => mS (fun o => mW h k o * h o v) 12
theorem mW_walk {h : Nat → Nat → Nat} {n : Nat} (hn : mE h n 0) : ∀ {k v : Nat}, v < 12 → 0 < mW h k v → mE h (n + k) v
  | 0, v, _, q => by
    have : v = 0 := by
      by_cases z : v = 0
      · exact z
      · simp [mW, z] at q
    subst this; exact hn
  | k + 1, v, _, q => by
    obtain ⟨o, h1, h2⟩ := mS_pos q
    have a : 0 < mW h k o := Nat.pos_of_mul_pos_right h2
    have b : 0 < h o v := Nat.pos_of_mul_pos_right (b := mW h k o) (by rw [Nat.mul_comm]; exact h2)
    exact ⟨o, h1, mW_walk hn h1 a, b⟩
theorem mW_0 {h : Nat → Nat → Nat} (q : mOK h) {k : Nat} (hk : 0 < k) : mW h k 0 = 0 := by
  refine Nat.eq_zero_of_not_pos fun z => ?_
  have w : ∀ i, mE h (i * k) 0 := by
    intro i
    induction i with
    | zero => rw [Nat.zero_mul]; trivial
    | succ i ih =>
      have := mW_walk ih (by omega) z
      rwa [Nat.succ_mul]
  exact mOK_all q (k := 5 * k) (v := 0) (by omega) (by omega) (w 5)
/-- no company is held beyond the whole -/
def mCol (h : Nat → Nat → Nat) : Prop := ∀ v, v < 12 → mS (fun o => h o v) 12 ≤ 10000
theorem mW_le {h : Nat → Nat → Nat} (q : mCol h) : ∀ {k v : Nat}, v < 12 → mW h k v ≤ 10000 ^ k
  | 0, v, _ => by
    show (if v = 0 then 1 else 0) ≤ 1
    split <;> omega
  | k + 1, v, hv => by
    have h1 : mW h (k + 1) v ≤ mS (fun o => 10000 ^ k * h o v) 12 := mS_le fun o ho => Nat.mul_le_mul_right _ (mW_le q ho)
    rw [mS_mul] at h1
    calc _ ≤ _ := h1
      _ ≤ 10000 ^ k * 10000 := Nat.mul_le_mul_left _ (q v hv)
      _ = 10000 ^ (k + 1) := rfl
/-- the sum of the chains of at most k links, in parts of 10000 ^ k -/
def mT (h : Nat → Nat → Nat) : Nat → Nat → Nat
  | 0, _ => 0
  | k + 1, v => 10000 * mT h k v + mW h (k + 1) v
theorem mT_0 {h : Nat → Nat → Nat} (q : mOK h) : ∀ k, mT h k 0 = 0
  | 0 => rfl
  | k + 1 => by
    show 10000 * mT h k 0 + mW h (k + 1) 0 = 0
    rw [mT_0 q k, mW_0 q (by omega)]
theorem mT_rec {h : Nat → Nat → Nat} (v : Nat) : ∀ k, mT h (k + 1) v = mS (fun o => (10000 ^ k * mW h 0 o + mT h k o) * h o v) 12
  | 0 => by
    show 10000 * 0 + mW h 1 v = _
    rw [Nat.mul_zero, Nat.zero_add]
    refine mS_congr fun o _ => ?_
    show mW h 0 o * h o v = (10000 ^ 0 * mW h 0 o + 0) * h o v
    rw [Nat.pow_zero, Nat.one_mul, Nat.add_zero]
  | k + 1 => by
    show 10000 * mT h (k + 1) v + mS (fun o => mW h (k + 1) o * h o v) 12 = _
    rw [mT_rec v k, ← mS_mul, ← mS_add]
    refine mS_congr fun o _ => ?_
    show 10000 * ((10000 ^ k * mW h 0 o + mT h k o) * h o v) + mW h (k + 1) o * h o v = (10000 ^ (k + 1) * mW h 0 o + (10000 * mT h k o + mW h (k + 1) o)) * h o v
    rw [Nat.pow_succ, ← Nat.mul_assoc, ← Nat.add_mul, Nat.mul_add, ← Nat.mul_assoc, Nat.mul_comm 10000 (10000 ^ k), Nat.add_assoc]
theorem mT_le {h : Nat → Nat → Nat} (q : mCol h) (q2 : mOK h) : ∀ {k v : Nat}, v < 12 → mT h k v ≤ 10000 ^ k
  | 0, v, _ => Nat.zero_le _
  | k + 1, v, hv => by
    rw [mT_rec]
    have h1 : mS (fun o => (10000 ^ k * mW h 0 o + mT h k o) * h o v) 12 ≤ mS (fun o => 10000 ^ k * h o v) 12 := by
      refine mS_le fun o ho => Nat.mul_le_mul_right _ ?_
      by_cases z : o = 0
      · subst z
        rw [mT_0 q2]
        show 10000 ^ k * 1 + 0 ≤ _
        omega
      · have : mW h 0 o = 0 := by simp [mW, z]
        rw [this]
        have := mT_le q q2 (k := k) ho
        omega
    rw [mS_mul] at h1
    calc _ ≤ _ := h1
      _ ≤ 10000 ^ k * 10000 := Nat.mul_le_mul_left _ (q v hv)
      _ = 10000 ^ (k + 1) := rfl
/-! pure: numbers of the loops -/
theorem ix12 (o d : Nat) : nI o * 12 + nI d = nI (o * 12 + d) := by
  rw [show (12 : Int32) = nI 12 from rfl, pk_mul, nI_add]
theorem ix12' (o d : Nat) : 12 * nI o + nI d = nI (12 * o + d) := by
  rw [show (12 : Int32) = nI 12 from rfl, pk_mul, nI_add]
/-- sums of longs -/
def sL (f : Nat → Int64) : Nat → Int64
  | 0 => 0
  | n + 1 => sL f n + f n
theorem sL_congr {f g : Nat → Int64} : ∀ {n : Nat}, (∀ i, i < n → f i = g i) → sL f n = sL g n
  | 0, _ => rfl
  | n + 1, h => by
    show sL f n + f n = sL g n + g n
    rw [sL_congr (n := n) fun i hi => h i (by omega), h n (by omega)]
theorem sL_add {f g : Nat → Int64} : ∀ {n : Nat}, sL (fun i => f i + g i) n = sL f n + sL g n
  | 0 => rfl
  | n + 1 => by
    show sL (fun i => f i + g i) n + (f n + g n) = (sL f n + f n) + (sL g n + g n)
    rw [sL_add (n := n)]; ac_rfl
theorem sL_zero {f : Nat → Int64} : ∀ {n : Nat}, (∀ i, i < n → f i = 0) → sL f n = 0
  | 0, _ => rfl
  | n + 1, h => by
    show sL f n + f n = 0
    rw [sL_zero (n := n) fun i hi => h i (by omega), h n (by omega)]; rfl
theorem sL_more {f : Nat → Int64} {n : Nat} : ∀ {k : Nat}, n ≤ k → (∀ i, n ≤ i → i < k → f i = 0) → sL f k = sL f n
  | 0, h, _ => by
    have : n = 0 := by omega
    subst this; rfl
  | k + 1, h, hz => by
    by_cases e : n = k + 1
    · subst e; rfl
    · show sL f k + f k = _
      rw [sL_more (k := k) (by omega) fun i h1 h2 => hz i h1 (by omega), hz k (by omega) (by omega), Int64.add_zero]
theorem sL_swap {f : Nat → Nat → Int64} {m : Nat} : ∀ {n : Nat}, sL (fun i => sL (fun j => f i j) m) n = sL (fun j => sL (fun i => f i j) n) m
  | 0 => (sL_zero fun _ _ => rfl).symm
  | n + 1 => by
    show sL (fun i => sL (fun j => f i j) m) n + sL (fun j => f n j) m = sL (fun j => sL (fun i => f i j) n + f n j) m
    rw [sL_swap (n := n), sL_add]
/-! pure: the two roundings, in natural numbers -/
theorem rd_rate (n r : Nat) : n / 1000000 * r + (n % 1000000 * r + 500000) / 1000000 = n / 1000000 * r + n % 1000000 * r / 1000000 + (if 500000 ≤ n % 1000000 * r % 1000000 then 1 else 0) := by
  generalize n % 1000000 * r = x
  generalize n / 1000000 * r = y
  split <;> omega
theorem rd_prod (a b c d D : Nat) : (a * D + b) * (c * D + d) = a * c * (D * D) + (a * d + b * c) * D + b * d := by
  rw [Nat.add_mul, Nat.mul_add, Nat.mul_add, Nat.mul_mul_mul_comm, Nat.add_mul, Nat.mul_right_comm a D d, ← Nat.mul_assoc b c D]
  omega
theorem rd_cls (n S : Nat) : n / 100000000 * (S / 100000000) + (n / 100000000 * (S % 100000000) + n % 100000000 * (S / 100000000)) / 100000000 + ((n / 100000000 * (S % 100000000) + n % 100000000 * (S / 100000000)) % 100000000 * 100000000 + n % 100000000 * (S % 100000000) + 5000000000000000) / 10000000000000000 = (n * S + 5000000000000000) / 10000000000000000 := by
  have e1 : n = n / 100000000 * 100000000 + n % 100000000 := by omega
  have e2 : S = S / 100000000 * 100000000 + S % 100000000 := by omega
  have e : n * S = n / 100000000 * (S / 100000000) * (100000000 * 100000000) + (n / 100000000 * (S % 100000000) + n % 100000000 * (S / 100000000)) * 100000000 + n % 100000000 * (S % 100000000) := by
    rw [← rd_prod, ← e1, ← e2]
  rw [e]
  generalize n / 100000000 * (S / 100000000) = p
  generalize n / 100000000 * (S % 100000000) = q
  generalize n % 100000000 * (S / 100000000) = r
  generalize n % 100000000 * (S % 100000000) = t
  omega
theorem rd_mod (a0 a1 a2 b0 b1 d0 d1 e1 d2 e2 lf : Nat) (h0 : d0 = a0 * b0) (h1 : d1 = a1 * b0 + d0 / 100000000) (h2 : e1 = a0 * b1 + d1 % 100000000) (h3 : d2 = a2 * b0 + d1 / 100000000 + e1 / 100000000) (h4 : e2 = a1 * b1 + d2) (h5 : lf = e1 % 100000000 * 100000000 + d0 % 100000000) :
    e2 + a2 * b1 * 100000000 + (if 5000000000000000 ≤ lf then 1 else 0) = ((a2 * 100000000 * 100000000 + a1 * 100000000 + a0) * (b1 * 100000000 + b0) + 5000000000000000) / 10000000000000000 := by
  have e : (a2 * 100000000 * 100000000 + a1 * 100000000 + a0) * (b1 * 100000000 + b0) = a2 * b1 * 1000000000000000000000000 + a2 * b0 * 10000000000000000 + a1 * b1 * 10000000000000000 + a1 * b0 * 100000000 + a0 * b1 * 100000000 + a0 * b0 := by
    rw [show a2 * 100000000 * 100000000 + a1 * 100000000 + a0 = (a2 * 100000000 + a1) * 100000000 + a0 by omega, rd_prod, Nat.add_mul (a2 * 100000000) a1 b1, Nat.add_mul (a2 * 100000000) a1 b0, Nat.mul_right_comm a2 100000000 b1, Nat.mul_right_comm a2 100000000 b0]
    generalize a2 * b1 = x1; generalize a2 * b0 = x2; generalize a1 * b1 = x3; generalize a1 * b0 = x4; generalize a0 * b1 = x5; generalize a0 * b0 = x6
    omega
  rw [e]
  generalize a2 * b1 = x1 at *
  generalize a2 * b0 = x2 at *
  generalize a1 * b1 = x3 at *
  generalize a1 * b0 = x4 at *
  generalize a0 * b1 = x5 at *
  generalize a0 * b0 = x6 at *
  split <;> omega
