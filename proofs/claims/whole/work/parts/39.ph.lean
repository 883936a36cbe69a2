/-! pure: the desk's elimination -/
theorem el_same {x y : Int64} (h1 : ¬ (0 < x.toInt ∧ y.toInt < 0)) (h2 : ¬ (x.toInt < 0 ∧ 0 < y.toInt)) : el x y = x := by
  unfold el
  rw [if_neg (by rw [gt0i, lt0i]; exact h1), if_neg (by rw [gt0i, lt0i]; exact h2)]
theorem el_pos {x y : Int64} (h1 : 0 < x.toInt) (h2 : y.toInt < 0) : el x y = x - tk x y := by
  unfold el
  rw [if_pos (by rw [gt0i, lt0i]; exact ⟨h1, h2⟩)]
theorem el_neg {x y : Int64} (h1 : x.toInt < 0) (h2 : 0 < y.toInt) : el x y = x + tk x y := by
  unfold el
  rw [if_neg (by rw [gt0i, lt0i]; omega), if_pos (by rw [gt0i, lt0i]; exact ⟨h1, h2⟩)]
def QD (c0 d0 b0 c p a : Nat) : Prop := 1 ≤ p ∧ p - 1 ≠ c ∧ (min c (p - 1) < c0 ∨ (min c (p - 1) = c0 ∧ (max c (p - 1) < d0 ∨ (max c (p - 1) = d0 ∧ a < b0))))
set_option maxHeartbeats 2000000 in
theorem sp_elim {ctl : Nat → Bool} {na : Nat} {A : Nat → Nat → Nat → Int64} (hna : na ≤ 12) {c d : Nat} (hcd : c < d) (hd : d < 12) (hA : ∀ c p a, ctl c = true → c < 12 → 1 ≤ p → p < 13 → a < 12 → bnd (A c p a)) (h1 : ctl c = true) (h2 : ctl d = true) {R : Nat → Int64} (h : rdE iD R A (eE ctl na A) (QD c d 0)) {post : (Nat → Int64) → Prop} (hp : ∀ R' : Nat → Int64, rdE iD R' A (eE ctl na A) (QD c d na) → post R') : wp_R_eliminate (nI c) (nI d) (nI na) R post := by
  unfold wp_R_eliminate
  refine ⟨fun i R' => ∃ b : Nat, b ≤ na ∧ i = nI b ∧ rdE iD R' A (eE ctl na A) (QD c d b), fun i _ => na - i.toNatClampNeg, ⟨0, by omega, rfl, h⟩, ?_⟩
  clear h
  rintro i R' ⟨b, hb, rfl, hR⟩
  refine ⟨fun hx => ?_, fun hx => ?_⟩
  · have hbe := q_ex (by omega) hb hx
    rw [hbe] at hR
    exact hp _ hR
  · have hb' := q_in (by omega) hb hx
    unfold wp_D_place
    have p1 : (((nI c * 13) + nI d) + 1) * 12 + nI b = nI (iD c (d + 1) b) := cD (nI_1 d)
    have p2 : (((nI d * 13) + nI c) + 1) * 12 + nI b = nI (iD d (c + 1) b) := cD (nI_1 c)
    rw [p1, p2]
    dsimp only
    have l1 : iD c (d + 1) b < 1872 := by unfold iD; omega
    have l2 : iD d (c + 1) b < 1872 := by unfold iD; omega
    have in1 : vp_in (nI (iD c (d + 1) b)) 1872 := vp_in_nI l1 (by decide)
    have in2 : vp_in (nI (iD d (c + 1) b)) 1872 := vp_in_nI l2 (by decide)
    have hne : iD d (c + 1) b ≠ iD c (d + 1) b := fun z => by have := iD_ok _ _ _ _ _ _ (by omega) (by omega) (by omega) (by omega) z; omega
    obtain ⟨-, hR'⟩ := rdE_pair (Q' := QD c d (b + 1)) iD_ok hR (by omega) hd (by omega) (by omega) (eE_1 (by omega) h1 h2 hb') (eE_1 (by omega) h2 h1 hb') (hA _ _ _ h1 (by omega) (by omega) (by omega) (by omega)) (hA _ _ _ h2 (by omega) (by omega) (by omega) (by omega)) (by unfold QD; omega) (fun c' p' a' _ _ _ => by unfold QD; omega)
    have ny : ∀ v, vp_updL R' (iD c (d + 1) b) v (iD d (c + 1) b) = R' (iD d (c + 1) b) := fun v => pk_uLn hne
    rw [nI_clamp (n := iD c (d + 1) b) (by omega), nI_clamp (n := iD d (c + 1) b) (by omega), nI_1]
    simp only [ny]
    have mu := q_mu hb' (show na < 2 ^ 31 by omega)
    have same : el (R' (iD c (d + 1) b)) (R' (iD d (c + 1) b)) = R' (iD c (d + 1) b) → el (R' (iD d (c + 1) b)) (R' (iD c (d + 1) b)) = R' (iD d (c + 1) b) → rdE iD R' A (eE ctl na A) (QD c d (b + 1)) := fun e1 e2 => by
      rw [e1, e2, upL_id, upL_id] at hR'; exact hR'
    have tkc := tk_comm (R' (iD c (d + 1) b)) (R' (iD d (c + 1) b))
    refine ⟨in1, in2, fun x49 hx49 => ⟨in1, fun s1 => ⟨in1, fun s2 => ?_, fun s2 => ⟨in2, fun s3 => ?_, fun s3 => ⟨in1, in1, in2, in2, ?_⟩⟩⟩, fun s1 => ⟨in2, fun s2 => ⟨in1, fun s3 => ?_, fun s3 => ?_⟩, fun s2 => ⟨in1, in1, in2, in2, ?_⟩⟩⟩⟩
    all_goals (have hx49 : x49 = tk (R' (iD c (d + 1) b)) (R' (iD d (c + 1) b)) := hx49)
    · rw [le0i] at s1; rw [ge0i] at s2
      exact ⟨⟨b + 1, by omega, rfl, same (el_same (by omega) (by omega)) (el_same (by omega) (by omega))⟩, mu⟩
    · rw [le0i] at s1 s3; rw [ge0i] at s2
      exact ⟨⟨b + 1, by omega, rfl, same (el_same (by omega) (by omega)) (el_same (by omega) (by omega))⟩, mu⟩
    · rw [le0i] at s1 s3; rw [ge0i] at s2
      rw [el_neg (by omega) (by omega), el_pos (x := R' (iD d (c + 1) b)) (by omega) (by omega), ← tkc, ← hx49] at hR'
      exact ⟨⟨b + 1, by omega, rfl, hR'⟩, mu⟩
    · rw [le0i] at s1; rw [ge0i] at s2
      exact ⟨⟨b + 1, by omega, rfl, same (el_same (by omega) (by omega)) (el_same (by omega) (by omega))⟩, mu⟩
    · rw [le0i] at s1; rw [ge0i] at s3; omega
    · rw [le0i] at s1; rw [ge0i] at s2
      rw [el_pos (by omega) (by omega), el_neg (x := R' (iD d (c + 1) b)) (by omega) (by omega), ← tkc, ← hx49] at hR'
      exact ⟨⟨b + 1, by omega, rfl, hR'⟩, mu⟩
theorem sp_isC {U : Nat → Int32} {ctl : Nat → Bool} {k : Nat} (hk : k < 12) (h : U k = bI (ctl k)) {post : Int32 → Unit → Prop} (h1 : ctl k = true → post 1 ()) (h0 : ctl k = false → post 0 ()) : wp_H_isControlled (nI k) U post := by
  unfold wp_H_isControlled
  rw [nI_clamp (by omega), h]
  refine ⟨vp_in_nI hk (by decide), ?_⟩
  cases q : ctl k with
  | true => exact ⟨by decide, h1 q⟩
  | false => exact ⟨by decide, h0 q⟩
theorem sp_mC {P : Nat → Int32} (hP : pOK P) (hok : mOK (hOf P)) {ctl : Nat → Bool} {k : Nat} (hk : k < 12) (h : ctl k = mC (hOf P) 4 k) {post : Int32 → Unit → Prop} (h1 : ctl k = true → post 1 ()) (h0 : ctl k = false → post 0 ()) : wp_M_isControlled (nI k) P post := by
  refine sp_mControlled hP hok hk ?_
  rw [← h]
  cases q : ctl k with
  | true => exact h1 q
  | false => exact h0 q
/-! the list of what stays -/
def la (E : Nat → Nat → Nat → Int64) (c d : Nat) : Nat → List (Nat × Nat × Nat)
  | 0 => []
  | b + 1 => la E c d b ++ (if E c (d + 1) b = 0 then [] else [(c, d, b)])
def ld (ctl : Nat → Bool) (E : Nat → Nat → Nat → Int64) (na c : Nat) : Nat → List (Nat × Nat × Nat)
  | 0 => []
  | d + 1 => ld ctl E na c d ++ (if c ≠ d ∧ ctl c = true ∧ ctl d = true then la E c d na else [])
def lc (ctl : Nat → Bool) (E : Nat → Nat → Nat → Int64) (na n : Nat) : Nat → List (Nat × Nat × Nat)
  | 0 => []
  | c + 1 => lc ctl E na n c ++ ld ctl E na c n
theorem la_z (E : Nat → Nat → Nat → Int64) (c d : Nat) : la E c d 0 = [] := rfl
theorem la_s (E : Nat → Nat → Nat → Int64) (c d b : Nat) : la E c d (b + 1) = la E c d b ++ (if E c (d + 1) b = 0 then [] else [(c, d, b)]) := rfl
theorem ld_z (ctl : Nat → Bool) (E : Nat → Nat → Nat → Int64) (na c : Nat) : ld ctl E na c 0 = [] := rfl
theorem ld_s (ctl : Nat → Bool) (E : Nat → Nat → Nat → Int64) (na c d : Nat) : ld ctl E na c (d + 1) = ld ctl E na c d ++ (if c ≠ d ∧ ctl c = true ∧ ctl d = true then la E c d na else []) := rfl
theorem la_le (E : Nat → Nat → Nat → Int64) (c d : Nat) : ∀ b, (la E c d b).length ≤ b
  | 0 => Nat.le_refl _
  | b + 1 => by
    have := la_le E c d b
    unfold la
    rw [List.length_append]
    split <;> simp <;> omega
theorem ld_le (ctl : Nat → Bool) (E : Nat → Nat → Nat → Int64) {na c : Nat} (hna : na ≤ 12) : ∀ d, (ld ctl E na c d).length ≤ 12 * (if c < d then d - 1 else d)
  | 0 => Nat.zero_le _
  | d + 1 => by
    have h1 := ld_le ctl E (c := c) hna d
    have h2 := la_le E c d na
    unfold ld
    rw [List.length_append]
    by_cases e : c = d
    · rw [if_neg (fun z => z.1 e), if_pos (by omega)]
      rw [if_neg (by omega)] at h1
      simp; omega
    · by_cases e2 : c < d
      · rw [if_pos e2] at h1
        rw [if_pos (show c < d + 1 by omega)]
        split <;> simp <;> omega
      · rw [if_neg e2] at h1
        rw [if_neg (show ¬ c < d + 1 by omega)]
        split <;> simp <;> omega
theorem lcs_le (ctl : Nat → Bool) (E : Nat → Nat → Nat → Int64) {na n : Nat} (hna : na ≤ 12) (hn : n ≤ 12) : ∀ c, c ≤ n → (lc ctl E na n c).length ≤ 132 * c
  | 0, _ => Nat.zero_le _
  | c + 1, h => by
    have h1 := lcs_le ctl E hna hn c (by omega)
    have h2 := ld_le ctl E (c := c) hna n
    rw [if_pos (by omega)] at h2
    unfold lc
    rw [List.length_append]
    omega
def rdL (l : List (Nat × Nat × Nat)) (o : Int32) (OP : Nat → Int32) : Prop := o = nI l.length ∧ ∀ i t, l[i]? = some t → OP i = nI (iD t.1 (t.2.1 + 1) t.2.2)
theorem rdL_add {l : List (Nat × Nat × Nat)} {o : Int32} {OP : Nat → Int32} (h : rdL l o OP) (t : Nat × Nat × Nat) : rdL (l ++ [t]) (nI (l.length + 1)) (upd OP l.length (nI (iD t.1 (t.2.1 + 1) t.2.2))) := by
  refine ⟨by rw [List.length_append]; rfl, fun i s hs => ?_⟩
  by_cases e : i = l.length
  · subst e
    rw [List.getElem?_append_right (Nat.le_refl _), Nat.sub_self] at hs
    cases hs
    exact pk_us
  · rw [pk_un e]
    by_cases z : i < l.length
    · rw [List.getElem?_append_left z] at hs
      exact h.2 i s hs
    · rw [List.getElem?_append_right (by omega)] at hs
      have : ([t] : List (Nat × Nat × Nat))[i - l.length]? = none := List.getElem?_eq_none (by simp; omega)
      rw [this] at hs; cases hs
def rdI (E : Nat → Nat → Nat → Int64) (l : List (Nat × Nat × Nat)) (o : Int32) (IT : Nat → Int64) : Prop := o = nI l.length ∧ ∀ i t, l[i]? = some t → IT (4 * i) = lN t.1 ∧ IT (4 * i + 1) = lN t.2.1 ∧ IT (4 * i + 2) = lN t.2.2 ∧ IT (4 * i + 3) = E t.1 (t.2.1 + 1) t.2.2
theorem sp_listOpen {E : Nat → Nat → Nat → Int64} {na c d : Nat} (hna : na ≤ 12) (hc : c < 12) (hd : d < 12) {R : Nat → Int64} (hR : ∀ c p a, c < 12 → p < 13 → a < 12 → R (iD c p a) = E c p a) {l : List (Nat × Nat × Nat)} (hl : l.length + 12 ≤ 1584) {o : Int32} {OP : Nat → Int32} (h : rdL l o OP) {post : (Int32 × (Nat → Int32)) → Prop} (hp : ∀ o' OP', rdL (l ++ la E c d na) o' OP' → post (o', OP')) : wp_R_listOpen (nI c) (nI d) (nI na) o R OP post := by
  unfold wp_R_listOpen
  refine ⟨fun i o' OP' => ∃ b : Nat, b ≤ na ∧ i = nI b ∧ rdL (l ++ la E c d b) o' OP', fun i _ _ => na - i.toNatClampNeg, ⟨0, by omega, rfl, by rw [la_z, List.append_nil]; exact h⟩, ?_⟩
  rintro i o' OP' ⟨b, hb, rfl, hR'⟩
  refine ⟨fun hx => ?_, fun hx => ?_⟩
  · have hbe := q_ex (by omega) hb hx
    rw [hbe] at hR'
    exact hp _ _ hR'
  · have hb' := q_in (by omega) hb hx
    have hlen := la_le E c d b
    unfold wp_D_place
    rw [show (((nI c * 13) + nI d) + 1) * 12 + nI b = nI (iD c (d + 1) b) from cD (nI_1 d)]
    dsimp only
    have l1 : iD c (d + 1) b < 1872 := by unfold iD; omega
    rw [nI_clamp (n := iD c (d + 1) b) (by omega), hR c (d + 1) b hc (by omega) (by omega), nI_1]
    have mu := q_mu hb' (show na < 2 ^ 31 by omega)
    have eo := hR'.1
    refine ⟨vp_in_nI l1 (by decide), fun e => ⟨⟨b + 1, by omega, rfl, ?_⟩, mu⟩, fun e => ⟨fun z => ?_, fun z => ?_⟩⟩
    · rw [la_s, if_pos e, List.append_nil]
      exact hR'
    · exfalso
      rw [eo] at z
      have := (nI_leI (a := 1584) (by decide) (by rw [List.length_append]; omega)).mp z
      rw [List.length_append] at this
      omega
    · subst eo
      have hl2 : (l ++ la E c d b).length < 1584 := by rw [List.length_append]; omega
      rw [nI_clamp (by omega), nI_1]
      refine ⟨vp_in_nI hl2 (by decide), ⟨b + 1, by omega, rfl, ?_⟩, mu⟩
      rw [la_s, if_neg e, ← List.append_assoc]
      exact rdL_add hR' (c, d, b)
