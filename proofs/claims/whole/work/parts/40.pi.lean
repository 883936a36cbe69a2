/-! pure: the desk's pairs, all of them -/
set_option maxHeartbeats 2000000 in
theorem sp_pairs {ctl : Nat → Bool} {n na : Nat} {A : Nat → Nat → Nat → Int64} {U : Nat → Int32} (hn : n ≤ 12) (hna : na ≤ 12) (hctl : ∀ c, ctl c = true → c < n) (hU : ∀ k, k < n → U k = bI (ctl k)) (hA : ∀ c p a, ctl c = true → c < 12 → 1 ≤ p → p < 13 → a < 12 → bnd (A c p a)) {R : Nat → Int64} (hR : ∀ c p a, c < 12 → p < 13 → a < 12 → R (iD c p a) = A c p a) {OP : Nat → Int32} {post : (Int32 × (Nat → Int64) × (Nat → Int32)) → Prop}
    (hp : ∀ o' R' OP', (∀ c p a, c < 12 → p < 13 → a < 12 → R' (iD c p a) = eE ctl na A c p a) → rdL (lc ctl (eE ctl na A) na n n) o' OP' → post (o', R', OP')) : wp_D_eliminatePairs (nI n) U (nI na) 0 R OP post := by
  unfold wp_D_eliminatePairs
  refine ⟨fun i R' => ∃ c : Nat, c ≤ n ∧ i = nI c ∧ rdE iD R' A (eE ctl na A) (QD c 0 0), fun i _ => n - i.toNatClampNeg, ⟨0, by omega, rfl, fun c p a h1 h2 h3 => ⟨fun q => by unfold QD at q; omega, fun _ => hR c p a h1 h2 h3⟩⟩, ?_⟩
  rintro i R' ⟨c, hc, rfl, h⟩
  refine ⟨fun hx => ?_, fun hx => ?_⟩
  · have hce := q_ex (by omega) hc hx
    have hE : ∀ c p a, c < 12 → p < 13 → a < 12 → R' (iD c p a) = eE ctl na A c p a := fun c' p a h1 h2 h3 => by
      obtain ⟨g1, g2⟩ := h c' p a h1 h2 h3
      by_cases q : QD c 0 0 c' p a
      · exact g1 q
      · rw [g2 q, eE_0]
        rintro ⟨z1, z2, z3, z4, z5⟩
        have := hctl _ z3
        have := hctl _ z4
        apply q
        unfold QD
        omega
    clear h hce hx hc
    refine ⟨fun i o' OP' => ∃ c : Nat, c ≤ n ∧ i = nI c ∧ rdL (lc ctl (eE ctl na A) na n c) o' OP', fun i _ _ => n - i.toNatClampNeg, ⟨0, by omega, rfl, ⟨rfl, fun i t ht => by simp [lc] at ht⟩⟩, ?_⟩
    clear c
    rintro i o' OP' ⟨c, hc, rfl, h⟩
    refine ⟨fun hx => ?_, fun hx => ?_⟩
    · have hce := q_ex (by omega) hc hx
      rw [hce] at h
      exact hp _ _ _ hE h
    · have hc' := q_in (by omega) hc hx
      have hlc := lcs_le ctl (eE ctl na A) hna hn c hc
      refine ⟨fun j o' OP' => ∃ d : Nat, d ≤ n ∧ j = nI d ∧ rdL (lc ctl (eE ctl na A) na n c ++ ld ctl (eE ctl na A) na c d) o' OP', fun j _ _ => n - j.toNatClampNeg, ⟨0, by omega, rfl, by rw [ld_z, List.append_nil]; exact h⟩, ?_⟩
      clear h
      rintro j o' OP' ⟨d, hd, rfl, h⟩
      refine ⟨fun hx => ?_, fun hx => ?_⟩
      · have hde := q_ex (by omega) hd hx
        rw [hde] at h
        rw [nI_1]
        exact ⟨⟨c + 1, by omega, rfl, h⟩, q_mu hc' (by omega)⟩
      · have hd' := q_in (by omega) hd hx
        have mu := q_mu hd' (show n < 2 ^ 31 by omega)
        have hld := ld_le ctl (eE ctl na A) (c := c) hna d
        have skip : ¬ (c ≠ d ∧ ctl c = true ∧ ctl d = true) → (∃ d' : Nat, d' ≤ n ∧ nI (d + 1) = nI d' ∧ rdL (lc ctl (eE ctl na A) na n c ++ ld ctl (eE ctl na A) na c d') o' OP') ∧ n - (nI (d + 1)).toNatClampNeg < n - (nI d).toNatClampNeg := fun hs =>
          ⟨⟨d + 1, by omega, rfl, by rw [ld_s, if_neg hs, List.append_nil]; exact h⟩, mu⟩
        rw [nI_1]
        refine ⟨fun e => skip (fun z => z.1 ((nI_eq (by omega) (by omega)).mp e)), fun e => sp_isC (by omega) (hU c hc') (fun z1 => ⟨fun w => absurd w (by decide), fun _ => sp_isC (by omega) (hU d hd') (fun z2 => ⟨fun w => absurd w (by decide), fun _ => ?_⟩) (fun z2 => ⟨fun _ => skip (fun z => by rw [z2] at z; cases z.2.2), fun w => absurd rfl w⟩)⟩) (fun z1 => ⟨fun _ => skip (fun z => by rw [z1] at z; cases z.2.1), fun w => absurd rfl w⟩)⟩
        have hcd : c ≠ d := fun z => e (by rw [z])
        refine sp_listOpen hna (by omega) (by omega) hE (by rw [List.length_append]; by_cases q : c < d <;> simp only [q, if_true, if_false] at hld <;> omega) h (fun o2 OP2 h2 => ⟨⟨d + 1, by omega, rfl, ?_⟩, mu⟩)
        rw [ld_s, if_pos ⟨hcd, z1, z2⟩, ← List.append_assoc]
        exact h2
  · have hc' := q_in (by omega) hc hx
    intro x13 hx13
    rw [nI_1] at hx13
    subst hx13
    rw [nI_1]
    refine ⟨fun j R' => ∃ d : Nat, c + 1 ≤ d ∧ d ≤ n ∧ j = nI d ∧ rdE iD R' A (eE ctl na A) (QD c d 0), fun j _ => n - j.toNatClampNeg, ⟨c + 1, by omega, by omega, rfl, rdE_mono h (fun c' p a _ _ _ => Or.inl (by unfold QD; omega))⟩, ?_⟩
    clear h
    rintro j R' ⟨d, hd1, hd, rfl, h⟩
    refine ⟨fun hx => ?_, fun hx => ?_⟩
    · have hde := q_ex (by omega) hd hx
      refine ⟨⟨c + 1, by omega, rfl, rdE_mono h (fun c' p a h1 h2 h3 => ?_)⟩, q_mu hc' (by omega)⟩
      by_cases z : max c' (p - 1) < n
      · left; unfold QD; omega
      · right; exact eE_0 (fun w => by have := hctl _ w.2.2.1; have := hctl _ w.2.2.2.1; omega)
    · have hd' := q_in (by omega) hd hx
      have mu := q_mu hd' (show n < 2 ^ 31 by omega)
      rw [nI_1]
      have skip : ¬ (ctl c = true ∧ ctl d = true) → (∃ d' : Nat, c + 1 ≤ d' ∧ d' ≤ n ∧ nI (d + 1) = nI d' ∧ rdE iD R' A (eE ctl na A) (QD c d' 0)) ∧ n - (nI (d + 1)).toNatClampNeg < n - (nI d).toNatClampNeg := fun hs => by
        refine ⟨⟨d + 1, by omega, by omega, rfl, rdE_mono h (fun c' p a h1 h2 h3 => ?_)⟩, mu⟩
        by_cases z : (c' = c ∧ p - 1 = d) ∨ (c' = d ∧ p - 1 = c)
        · right
          refine eE_0 (fun w => hs ?_)
          rcases z with ⟨z1, z2⟩ | ⟨z1, z2⟩
          · rw [← z1, ← z2]; exact ⟨w.2.2.1, w.2.2.2.1⟩
          · rw [← z1, ← z2]; exact ⟨w.2.2.2.1, w.2.2.1⟩
        · left; unfold QD; omega
      refine sp_isC (by omega) (hU c hc') (fun z1 => ⟨fun w => absurd w (by decide), fun _ => sp_isC (by omega) (hU d hd') (fun z2 => ⟨fun w => absurd w (by decide), fun _ => ?_⟩) (fun z2 => ⟨fun _ => skip (fun z => by rw [z2] at z; cases z.2), fun w => absurd rfl w⟩)⟩) (fun z1 => ⟨fun _ => skip (fun z => by rw [z1] at z; cases z.1), fun w => absurd rfl w⟩)
      refine sp_elim hna (by omega) (by omega) hA z1 z2 h (fun R2 h2 => ⟨⟨d + 1, by omega, by omega, rfl, rdE_mono h2 (fun c' p a h1 h2 h3 => ?_)⟩, mu⟩)
      by_cases z : a < na
      · left; unfold QD; omega
      · right; exact eE_0 (fun w => z w.2.2.2.2)
