/-! pure: amounts taken out against each other -/
def aL (x : Int64) : Int64 := if 0 < x then x else -x
def tk (x y : Int64) : Int64 := if aL y < aL x then aL y else aL x
def el (x y : Int64) : Int64 := if 0 < x ∧ y < 0 then x - tk x y else if x < 0 ∧ 0 < y then x + tk x y else x
theorem L_ext {x y : Int64} (h : x.toInt = y.toInt) : x = y := Int64.toInt_inj.mp h
theorem tk_comm (x y : Int64) : tk x y = tk y x := by
  unfold tk
  by_cases h1 : aL y < aL x
  · rw [if_pos h1, if_neg]
    rw [Int64.lt_iff_toInt_lt] at h1 ⊢; omega
  · rw [if_neg h1]
    by_cases h2 : aL x < aL y
    · rw [if_pos h2]
    · rw [if_neg h2]
      rw [Int64.lt_iff_toInt_lt] at h1 h2
      exact L_ext (by omega)
theorem aL_le (x : Int64) {post : Int64 → Unit → Prop} (hp : post (aL x) ()) : wp_M_size x post := by
  unfold wp_M_size
  unfold aL at hp
  refine ⟨fun q => ?_, fun q => ?_⟩
  · by_cases z : 0 < x
    · rw [if_pos z] at hp; exact hp
    · rw [if_neg z] at hp
      have e : x = 0 := L_ext (by rw [j_0]; have := ge0i.mp q; have := _root_.mt gt0i.mpr z; omega)
      rw [e] at hp ⊢; exact hp
  · have z : ¬ 0 < x := fun w => q (by rw [ge0i]; have := gt0i.mp w; omega)
    rw [if_neg z] at hp; exact hp
theorem lt0i {x : Int64} : x < 0 ↔ x.toInt < 0 := by rw [Int64.lt_iff_toInt_lt, j_0]
theorem le0i {x : Int64} : x ≤ 0 ↔ x.toInt ≤ 0 := by rw [Int64.le_iff_toInt_le, j_0]
def bnd (x : Int64) : Prop := -2000000000000000 ≤ x.toInt ∧ x.toInt ≤ 2000000000000000
theorem aL_i {x : Int64} (h : bnd x) : (aL x).toInt = if 0 < x.toInt then x.toInt else -x.toInt := by
  unfold aL
  unfold bnd at h
  by_cases z : 0 < x
  · rw [if_pos z, if_pos (gt0i.mp z)]
  · rw [if_neg z, if_neg (fun w => z (gt0i.mpr w)), j_neg (by omega)]
theorem tk_i {x y : Int64} (hx : bnd x) (hy : bnd y) : (tk x y).toInt = if (aL y).toInt < (aL x).toInt then (aL y).toInt else (aL x).toInt := by
  unfold tk
  by_cases z : aL y < aL x
  · rw [if_pos z, if_pos (Int64.lt_iff_toInt_lt.mp z)]
  · rw [if_neg z, if_neg (fun w => z (Int64.lt_iff_toInt_lt.mpr w))]
theorem el_i {x y : Int64} (hx : bnd x) (hy : bnd y) : ((0 < x.toInt ∧ y.toInt < 0) → (el x y).toInt = x.toInt - (tk x y).toInt) ∧ ((x.toInt < 0 ∧ 0 < y.toInt) → (el x y).toInt = x.toInt + (tk x y).toInt) ∧ (¬ (0 < x.toInt ∧ y.toInt < 0) → ¬ (x.toInt < 0 ∧ 0 < y.toInt) → el x y = x) := by
  have ht := tk_i hx hy
  have ax := aL_i hx
  have ay := aL_i hy
  unfold bnd at hx hy
  have e1 : (0 < x ∧ y < 0) ↔ (0 < x.toInt ∧ y.toInt < 0) := by rw [gt0i, lt0i]
  have e2 : (x < 0 ∧ 0 < y) ↔ (x.toInt < 0 ∧ 0 < y.toInt) := by rw [gt0i, lt0i]
  unfold el
  refine ⟨fun q => ?_, fun q => ?_, fun q w => ?_⟩
  · rw [if_pos (e1.mpr q), j_sub]
    · rw [ht, ax, ay]; split <;> split <;> split <;> omega
    · rw [ht, ax, ay]; split <;> split <;> split <;> omega
  · rw [if_neg (fun z => by have := e1.mp z; omega), if_pos (e2.mpr q), j_add]
    · rw [ht, ax, ay]; split <;> split <;> split <;> omega
    · rw [ht, ax, ay]; split <;> split <;> split <;> omega
  · rw [if_neg (fun z => q (e1.mp z)), if_neg (fun z => w (e2.mp z))]
theorem el_done {x y : Int64} (hx : bnd x) (hy : bnd y) : el (el x y) (el y x) = el x y := by
  obtain ⟨a1, a2, a3⟩ := el_i hx hy
  obtain ⟨b1, b2, b3⟩ := el_i hy hx
  have ht := tk_i hx hy
  have hu := tk_i hy hx
  have ax := aL_i hx
  have ay := aL_i hy
  have fin : ¬ (0 < (el x y).toInt ∧ (el y x).toInt < 0) → ¬ ((el x y).toInt < 0 ∧ 0 < (el y x).toInt) → el (el x y) (el y x) = el x y := by
    intro p q
    show (if 0 < el x y ∧ el y x < 0 then el x y - tk (el x y) (el y x) else if el x y < 0 ∧ 0 < el y x then el x y + tk (el x y) (el y x) else el x y) = el x y
    rw [if_neg (by rw [gt0i, lt0i]; exact p), if_neg (by rw [gt0i, lt0i]; exact q)]
  rw [ax, ay] at ht hu
  generalize x.toInt = a at *
  generalize y.toInt = b at *
  by_cases p : 0 < a ∧ b < 0
  · have c1 := a1 p
    have c2 := b2 ⟨p.2, p.1⟩
    apply fin
    · rw [c1, c2, ht, hu]; split at ht <;> split at hu <;> simp_all <;> omega
    · rw [c1, c2, ht, hu]; split at ht <;> split at hu <;> simp_all <;> omega
  · by_cases q : a < 0 ∧ 0 < b
    · have c1 := a2 q
      have c2 := b1 ⟨q.2, q.1⟩
      apply fin
      · rw [c1, c2, ht, hu]; split at ht <;> split at hu <;> simp_all <;> omega
      · rw [c1, c2, ht, hu]; split at ht <;> split at hu <;> simp_all <;> omega
    · have c1 := a3 p q
      have c2 := b3 (fun z => q ⟨z.2, z.1⟩) (fun z => p ⟨z.2, z.1⟩)
      rw [c1, c2, c1]
/-- cells read, those of Q in the new state, the rest in the old -/
def rdE (ix : Nat → Nat → Nat → Nat) (R : Nat → Int64) (A E : Nat → Nat → Nat → Int64) (Q : Nat → Nat → Nat → Prop) : Prop := ∀ c p a, c < 12 → p < 13 → a < 12 → (Q c p a → R (ix c p a) = E c p a) ∧ (¬ Q c p a → R (ix c p a) = A c p a)
def ixOK (ix : Nat → Nat → Nat → Nat) : Prop := ∀ c p a c' p' a', p < 13 → a < 12 → p' < 13 → a' < 12 → ix c p a = ix c' p' a' → c = c' ∧ p = p' ∧ a = a'
def iD (c p a : Nat) : Nat := (c * 13 + p) * 12 + a
def iM (c p a : Nat) : Nat := 156 * c + 13 * a + p
theorem iD_ok : ixOK iD := fun _ _ _ _ _ _ h1 h2 h3 h4 h => (pl_inj h1 h2 h3 h4).mp h
theorem iM_ok : ixOK iM := fun _ _ _ _ _ _ h1 h2 h3 h4 h => (cm_inj h1 h2 h3 h4).mp h
theorem rdE_mono {ix : Nat → Nat → Nat → Nat} {R : Nat → Int64} {A E : Nat → Nat → Nat → Int64} {Q Q' : Nat → Nat → Nat → Prop} (h : rdE ix R A E Q) (h1 : ∀ c p a, c < 12 → p < 13 → a < 12 → (Q c p a ↔ Q' c p a) ∨ E c p a = A c p a) : rdE ix R A E Q' := by
  intro c p a hc hp ha
  obtain ⟨g1, g2⟩ := h c p a hc hp ha
  rcases h1 c p a hc hp ha with e | e
  · exact ⟨fun q => g1 (e.mpr q), fun q => g2 (fun z => q (e.mp z))⟩
  · by_cases q : Q c p a
    · exact ⟨fun _ => g1 q, fun _ => by rw [g1 q, e]⟩
    · exact ⟨fun _ => by rw [g2 q, e], fun _ => g2 q⟩
theorem rdE_pair {ix : Nat → Nat → Nat → Nat} (hix : ixOK ix) {R : Nat → Int64} {A E : Nat → Nat → Nat → Int64} {Q Q' : Nat → Nat → Nat → Prop} (h : rdE ix R A E Q) {c d a : Nat} (hc : c < 12) (hd : d < 12) (ha : a < 12) (hcd : c ≠ d) (hE1 : E c (d + 1) a = el (A c (d + 1) a) (A d (c + 1) a)) (hE2 : E d (c + 1) a = el (A d (c + 1) a) (A c (d + 1) a)) (hb1 : bnd (A c (d + 1) a)) (hb2 : bnd (A d (c + 1) a)) (hs : Q c (d + 1) a ↔ Q d (c + 1) a)
    (hQ : ∀ c' p' a', c' < 12 → p' < 13 → a' < 12 → (Q' c' p' a' ↔ Q c' p' a' ∨ (c' = c ∧ p' = d + 1 ∧ a' = a) ∨ (c' = d ∧ p' = c + 1 ∧ a' = a))) :
    el (R (ix c (d + 1) a)) (R (ix d (c + 1) a)) = E c (d + 1) a ∧ rdE ix (vp_updL (vp_updL R (ix c (d + 1) a) (el (R (ix c (d + 1) a)) (R (ix d (c + 1) a)))) (ix d (c + 1) a) (el (R (ix d (c + 1) a)) (R (ix c (d + 1) a)))) A E Q' := by
  obtain ⟨g1, g2⟩ := h c (d + 1) a hc (by omega) ha
  obtain ⟨g3, g4⟩ := h d (c + 1) a hd (by omega) ha
  have k : el (R (ix c (d + 1) a)) (R (ix d (c + 1) a)) = E c (d + 1) a ∧ el (R (ix d (c + 1) a)) (R (ix c (d + 1) a)) = E d (c + 1) a := by
    by_cases q : Q c (d + 1) a
    · rw [g1 q, g3 (hs.mp q), hE1, hE2]
      exact ⟨el_done hb1 hb2, el_done hb2 hb1⟩
    · rw [g2 q, g4 (fun z => q (hs.mpr z)), hE1, hE2]
      exact ⟨rfl, rfl⟩
  refine ⟨k.1, ?_⟩
  rw [k.1, k.2]
  intro c' p' a' hc' hp' ha'
  have q' := hQ c' p' a' hc' hp' ha'
  by_cases e2 : c' = d ∧ p' = c + 1 ∧ a' = a
  · obtain ⟨f1, f2, f3⟩ := e2
    have hq' : Q' c' p' a' := q'.mpr (Or.inr (Or.inr ⟨f1, f2, f3⟩))
    refine ⟨fun _ => ?_, fun z => absurd hq' z⟩
    rw [f1, f2, f3, pk_uLs]
  · rw [pk_uLn (fun z => e2 (hix _ _ _ _ _ _ hp' ha' (by omega) ha z))]
    by_cases e1 : c' = c ∧ p' = d + 1 ∧ a' = a
    · obtain ⟨f1, f2, f3⟩ := e1
      have hq' : Q' c' p' a' := q'.mpr (Or.inr (Or.inl ⟨f1, f2, f3⟩))
      refine ⟨fun _ => ?_, fun z => absurd hq' z⟩
      rw [f1, f2, f3, pk_uLs]
    · rw [pk_uLn (fun z => e1 (hix _ _ _ _ _ _ hp' ha' (by omega) ha z))]
      obtain ⟨g5, g6⟩ := h c' p' a' hc' hp' ha'
      exact ⟨fun z => g5 ((q'.mp z).resolve_right (fun w => w.elim e1 e2)), fun z => g6 (fun w => z (q'.mpr (Or.inl w)))⟩
theorem upL_id {f : Nat → Int64} {i : Nat} : vp_updL f i (f i) = f := by
  funext j
  by_cases e : j = i
  · subst e; exact pk_uLs
  · exact pk_uLn e
def eE (ctl : Nat → Bool) (na : Nat) (A : Nat → Nat → Nat → Int64) (c p a : Nat) : Int64 := if 1 ≤ p ∧ p - 1 ≠ c ∧ ctl c = true ∧ ctl (p - 1) = true ∧ a < na then el (A c p a) (A (p - 1) (c + 1) a) else A c p a
theorem eE_1 {ctl : Nat → Bool} {na : Nat} {A : Nat → Nat → Nat → Int64} {c d a : Nat} (h : c ≠ d) (h1 : ctl c = true) (h2 : ctl d = true) (ha : a < na) : eE ctl na A c (d + 1) a = el (A c (d + 1) a) (A d (c + 1) a) := by
  unfold eE
  rw [Nat.add_sub_cancel, if_pos ⟨by omega, fun z => h z.symm, h1, h2, ha⟩]
theorem eE_0 {ctl : Nat → Bool} {na : Nat} {A : Nat → Nat → Nat → Int64} {c p a : Nat} (h : ¬ (1 ≤ p ∧ p - 1 ≠ c ∧ ctl c = true ∧ ctl (p - 1) = true ∧ a < na)) : eE ctl na A c p a = A c p a := by
  unfold eE
  rw [if_neg h]
