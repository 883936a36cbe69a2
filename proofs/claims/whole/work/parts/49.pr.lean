/-! pure: consolidate beside the reference's -/
theorem la_mem {E : Nat → Nat → Nat → Int64} {c d : Nat} {t : Nat × Nat × Nat} : ∀ {b : Nat}, t ∈ la E c d b → t.1 = c ∧ t.2.1 = d ∧ t.2.2 < b
  | 0, h => by cases h
  | b + 1, h => by
    rw [la_s, List.mem_append] at h
    rcases h with h | h
    · obtain ⟨a1, a2, a3⟩ := la_mem h
      exact ⟨a1, a2, by omega⟩
    · by_cases z : E c (d + 1) b = 0
      · rw [if_pos z] at h; cases h
      · rw [if_neg z, List.mem_singleton] at h
        subst h
        exact ⟨rfl, rfl, Nat.lt_succ_self _⟩
theorem ld_mem {ctl : Nat → Bool} {E : Nat → Nat → Nat → Int64} {na c : Nat} {t : Nat × Nat × Nat} : ∀ {d : Nat}, t ∈ ld ctl E na c d → t.1 = c ∧ t.2.1 < d ∧ t.2.2 < na
  | 0, h => by cases h
  | d + 1, h => by
    rw [ld_s, List.mem_append] at h
    rcases h with h | h
    · obtain ⟨a1, a2, a3⟩ := ld_mem h
      exact ⟨a1, by omega, a3⟩
    · by_cases z : c ≠ d ∧ ctl c = true ∧ ctl d = true
      · rw [if_pos z] at h
        obtain ⟨a1, a2, a3⟩ := la_mem h
        exact ⟨a1, by omega, a3⟩
      · rw [if_neg z] at h; cases h
theorem lc_mem {ctl : Nat → Bool} {E : Nat → Nat → Nat → Int64} {na n : Nat} {t : Nat × Nat × Nat} : ∀ {c : Nat}, t ∈ lc ctl E na n c → t.1 < c ∧ t.2.1 < n ∧ t.2.2 < na
  | 0, h => by cases h
  | c + 1, h => by
    have e : lc ctl E na n (c + 1) = lc ctl E na n c ++ ld ctl E na c n := rfl
    rw [e, List.mem_append] at h
    rcases h with h | h
    · obtain ⟨a1, a2, a3⟩ := lc_mem h
      exact ⟨by omega, a2, a3⟩
    · obtain ⟨a1, a2, a3⟩ := ld_mem h
      exact ⟨by omega, a2, a3⟩
/-- the report and the reference's last consolidation -/
def rep (n : Nat) (d : Bool) (md ro : Int32) (R S G OC : Nat → Int64) (OP : Nat → Int32) (dn it : Int32) (Sp Ou IT : Nat → Int64) : Prop :=
  md = bI d ∧ dn = bI d ∧ (∀ c, n ≤ c → c < 12 → Ou c = 0) ∧ (d = false → ro = 0) ∧ (d = true → (∀ i, i < 432 → S i = Sp i) ∧ (∀ a, a < 12 → G a = sL (fun c => Sp (288 + 12 * c + a)) 12) ∧ (∀ c, c < 12 → OC c = Ou c) ∧ ∃ (l : List (Nat × Nat × Nat)) (E : Nat → Nat → Nat → Int64), rdL l ro OP ∧ rdI E l it IT ∧ l.length ≤ 1584 ∧ ∀ (i : Nat) (t : Nat × Nat × Nat), l[i]? = some t → t.1 < 12 ∧ t.2.1 < 12 ∧ t.2.2 < 12 ∧ R (iD t.1 (t.2.1 + 1) t.2.2) = E t.1 (t.2.1 + 1) t.2.2)
theorem rep_mono {n n' : Nat} {d : Bool} {md ro : Int32} {R S G OC : Nat → Int64} {OP : Nat → Int32} {dn it : Int32} {Sp Ou IT : Nat → Int64} (h : rep n d md ro R S G OC OP dn it Sp Ou IT) (hn : n ≤ n') : rep n' d md ro R S G OC OP dn it Sp Ou IT :=
  ⟨h.1, h.2.1, fun c h1 h2 => h.2.2.1 c (by omega) h2, h.2.2.2⟩
theorem nz_1 : ∀ k, k < 12 → ¬ ((-1 : Int32) - nI k) = 0 := by decide
theorem nz_2 : ∀ k, k < 4 → ¬ ((-100 : Int32) - nI k) = 0 := by decide
set_option maxHeartbeats 4000000 in
theorem cs_consolidate {n na : Nat} {xc mc xa xr ma : Int32} {xcur mcur xso mso xcl xav mcl mav P U : Nat → Int32} {X M T Sh : Nat → Int64} {d : Bool} {md rc ra ro dn it tw : Int32} {R S G OC : Nat → Int64} {OP : Nat → Int32} {Lf Sp Ou IT : Nat → Int64} (hic : ic n xc xcur mc mcur) (hia : ia na xa xr xso ma mso) (hir : ir xcl xav mcl mav) (hs : sOK n na mso X M) (hI : hInv P U Sh) (hrep : rep n d md ro R S G OC OP dn it Sp Ou IT) :
    ∃ (r : Int32) (d' : Bool) (PD : (Int32 × Int32 × Int32 × Int32 × (Nat → Int64) × (Nat → Int64) × (Nat → Int64) × (Nat → Int64) × (Nat → Int32)) → Prop) (PM : (Int32 × Int32 × Int32 × (Nat → Int64) × (Nat → Int64) × (Nat → Int64) × (Nat → Int64)) → Prop),
      (∀ post, (∀ u, PD u → post r u) → wp_D_consolidate xc xa xr xcur xso xcl xav X T U Sh md rc ra ro R S G OC OP post) ∧ (∀ post, (∀ u, PM u → post r u) → wp_M_consolidate tw mc ma dn it mcur mso mcl mav P M T Lf Sp Ou IT post) ∧
      ∀ u u', PD u → PM u' → u'.1 = 0 ∧ rep n d' u.1 u.2.2.2.1 u.2.2.2.2.1 u.2.2.2.2.2.1 u.2.2.2.2.2.2.1 u.2.2.2.2.2.2.2.1 u.2.2.2.2.2.2.2.2 u'.2.1 u'.2.2.1 u'.2.2.2.2.1 u'.2.2.2.2.2.1 u'.2.2.2.2.2.2 := by
  obtain ⟨i1, i2, rfl, rfl, i3, i4⟩ := hic
  obtain ⟨a1, rfl, rfl, a2, a3, a4⟩ := hia
  obtain ⟨hP, hcol, hok, hU, hSh⟩ := hI
  have hcur : ∀ i, i < n → mcur i = nI (rN mcur i) ∧ rN mcur i < 4 := fun i hi => by
    obtain ⟨q, hq, e⟩ := i4 i hi
    unfold rN
    rw [e, nI_clamp (by omega)]
    exact ⟨rfl, hq⟩
  have hrt : ∀ q, q < 4 → xcl q = mcl q ∧ xav q = mav q ∧ mcl q = nI (rN mcl q) ∧ rN mcl q ≤ 1000000000 ∧ mav q = nI (rN mav q) ∧ rN mav q ≤ 1000000000 := fun q hq => by
    obtain ⟨e1, e2, ⟨v, hv, e3⟩, w, hw, e4⟩ := hir q hq
    refine ⟨e1, e2, ?_⟩
    unfold rN
    rw [e3, e4, nI_clamp (by omega), nI_clamp (by omega)]
    exact ⟨rfl, hv, rfl, hw⟩
  obtain ⟨ctl, hct⟩ : ∃ ctl : Nat → Bool, ∀ k, ctl k = (decide (k < n) && mC (hOf P) 4 k) := ⟨_, fun _ => rfl⟩
  have hctl : ∀ c, ctl c = true → c < n := fun c h => by
    rw [hct, Bool.and_eq_true, decide_eq_true_eq] at h; exact h.1
  have hC : ∀ k, k < n → ctl k = mC (hOf P) 4 k := fun k hk => by rw [hct]; simp [hk]
  have hU' : ∀ k, k < n → U k = bI (ctl k) := fun k hk => by rw [hC k hk]; exact hU k (by omega)
  have hxc : ∀ i, i < n → xcur i = nI (rN mcur i) ∧ rN mcur i < 4 := fun i hi => by rw [i3 i (by omega)]; exact hcur i hi
  have hcl : ∀ q, q < 4 → xcl q = mcl q := fun q hq => (hrt q hq).1
  -- hindered: nothing moves
  have stay : ∀ r : Int32, ¬ r = 0 → (∀ post : Int32 → Unit → Prop, post r () → wp_D_findHindrance (nI n) (nI na) xr xcur xcl X U post) → (∀ post, post r (0, dn, it, Lf, Sp, Ou, IT) → wp_M_consolidate tw (nI n) (nI na) dn it mcur mso mcl mav P M T Lf Sp Ou IT post) → ∃ (r : Int32) (d' : Bool) (PD : (Int32 × Int32 × Int32 × Int32 × (Nat → Int64) × (Nat → Int64) × (Nat → Int64) × (Nat → Int64) × (Nat → Int32)) → Prop) (PM : (Int32 × Int32 × Int32 × (Nat → Int64) × (Nat → Int64) × (Nat → Int64) × (Nat → Int64)) → Prop),
      (∀ post, (∀ u, PD u → post r u) → wp_D_consolidate (nI n) (nI na) xr xcur xso xcl xav X T U Sh md rc ra ro R S G OC OP post) ∧ (∀ post, (∀ u, PM u → post r u) → wp_M_consolidate tw (nI n) (nI na) dn it mcur mso mcl mav P M T Lf Sp Ou IT post) ∧
      ∀ u u', PD u → PM u' → u'.1 = 0 ∧ rep n d' u.1 u.2.2.2.1 u.2.2.2.2.1 u.2.2.2.2.2.1 u.2.2.2.2.2.2.1 u.2.2.2.2.2.2.2.1 u.2.2.2.2.2.2.2.2 u'.2.1 u'.2.2.1 u'.2.2.2.2.1 u'.2.2.2.2.2.1 u'.2.2.2.2.2.2 := by
    intro r hr hD hM
    refine ⟨r, d, fun u => u = (md, rc, ra, ro, R, S, G, OC, OP), fun u => u = (0, dn, it, Lf, Sp, Ou, IT), fun post hp => ?_, fun post hp => hM _ (hp _ rfl), ?_⟩
    · unfold wp_D_consolidate
      exact hD _ ⟨fun z => absurd z hr, fun _ => hp _ rfl⟩
    · rintro u u' rfl rfl
      exact ⟨rfl, hrep⟩
  by_cases H1 : ∃ k, k < n ∧ ctl k = true ∧ ¬ bS M k = 0
  · obtain ⟨k, ⟨k1, k2, k3⟩, k4⟩ := pk_least (fun k => k < n ∧ ctl k = true ∧ ¬ bS M k = 0) H1
    have uq : ∀ k', k' < n → ctl k' = true → ¬ bS M k' = 0 → (∀ j, j < k' → ctl j = true → bS M j = 0) → k' = k := fun k' q1 q2 q3 q4 => by
      by_cases z : k' < k
      · exact absurd ⟨q1, q2, q3⟩ (k4 k' z)
      · by_cases w : k < k'
        · exact absurd (q4 k w k2) k3
        · omega
    refine stay ((-1) - nI k) (nz_1 k (by omega)) (fun post hp => ?_) (fun post hp => ?_)
    · exact sp_hindD i2 a1 hU' hxc hcl hs (fun k' q1 q2 q3 q4 => by rw [uq k' q1 q2 q3 q4]; exact hp) (fun q => absurd (q k k1 k2) k3) (fun q => absurd (q k k1 k2) k3)
    · exact sp_hindM i2 a1 hP hok hC hcur (fun k' q1 q2 q3 q4 => by rw [uq k' q1 q2 q3 q4]; exact hp) (fun q => absurd (q k k1 k2) k3) (fun q => absurd (q k k1 k2) k3)
  · by_cases H2 : ∃ q, ∃ j, j < n ∧ bad ctl mcl mcur j ∧ rN mcur j = q
    · obtain ⟨q, ⟨j, j1, j2, j3⟩, j4⟩ := pk_least (fun q => ∃ j, j < n ∧ bad ctl mcl mcur j ∧ rN mcur j = q) H2
      have hq4 : q < 4 := by rw [← j3]; exact (hcur j j1).2
      have uq : ∀ q', (∃ j, j < n ∧ bad ctl mcl mcur j ∧ rN mcur j = q') → (∀ j, j < n → bad ctl mcl mcur j → q' ≤ rN mcur j) → q' = q := fun q' p1 p2 => by
        have h1 := p2 j j1 j2
        by_cases z : q' < q
        · exact absurd p1 (j4 q' z)
        · omega
      refine stay ((-100) - nI q) (nz_2 q hq4) (fun post hp => ?_) (fun post hp => ?_)
      · exact sp_hindD i2 a1 hU' hxc hcl hs (fun k' q1 q2 q3 q4 => absurd ⟨k', q1, q2, q3⟩ H1) (fun _ q' _ p1 p2 => by rw [uq q' p1 p2]; exact hp) (fun _ p => absurd j2 (p j j1))
      · exact sp_hindM i2 a1 hP hok hC hcur (fun k' q1 q2 q3 q4 => absurd ⟨k', q1, q2, q3⟩ H1) (fun _ q' _ p1 p2 => by rw [uq q' p1 p2]; exact hp) (fun _ p => absurd j2 (p j j1))
    · have no1 : ∀ k', k' < n → ctl k' = true → ¬ bS M k' = 0 → False := fun k' q1 q2 q3 => H1 ⟨k', q1, q2, q3⟩
      have no2 : ∀ q', (∃ j, j < n ∧ bad ctl mcl mcur j ∧ rN mcur j = q') → False := fun q' p => H2 ⟨q', p⟩
      rcases a4 with ⟨e1, e2⟩ | ⟨r, r1, rfl, r3, r4⟩
      · refine stay (-200) (by decide) (fun post hp => ?_) (fun post hp => ?_)
        · exact sp_hindD i2 a1 hU' hxc hcl hs (fun k' q1 q2 q3 _ => (no1 k' q1 q2 q3).elim) (fun _ q' _ p1 _ => (no2 q' p1).elim) (fun _ _ => ⟨fun _ => hp, fun z => absurd e1 z⟩)
        · exact sp_hindM i2 a1 hP hok hC hcur (fun k' q1 q2 q3 _ => (no1 k' q1 q2 q3).elim) (fun _ q' _ p1 _ => (no2 q' p1).elim) (fun _ _ => ⟨fun _ => hp, fun r h1 h2 => absurd h2 (e2 r h1)⟩)
      · have K : kOK n na r xcur mcur xso mso xcl xav mcl mav X M T := by
          refine ⟨i1, i2, a1, r1, i3, fun i hi => ⟨(hcur i hi).2, (hcur i hi).1⟩, a2, fun i hi => ?_, fun i hi => ⟨r4 i hi, fun z => by rw [z]; exact r3⟩, hrt, hs⟩
          obtain ⟨s, s1, s2, s3⟩ := a3 i hi
          have : s = 1 ∨ s = 2 ∨ s = 3 ∨ s = 4 := by omega
          rcases this with rfl | rfl | rfl | rfl
          · exact Or.inl s3
          · exact Or.inr (Or.inl s3)
          · exact Or.inr (Or.inr (Or.inl s3))
          · exact Or.inr (Or.inr (Or.inr s3))
        have hH : ∀ post' : Int32 → Unit → Prop, post' 0 () → wp_D_findHindrance (nI n) (nI na) (nI r) xcur xcl X U post' := fun post hp =>
          sp_hindD i2 a1 hU' hxc hcl hs (fun k' q1 q2 q3 _ => (no1 k' q1 q2 q3).elim) (fun _ q' _ p1 _ => (no2 q' p1).elim) (fun _ _ => ⟨fun z => absurd z (ne1 r (by omega)), fun _ => hp⟩)
        generalize hEe : eE ctl na (aA ctl n na r mcur mso mcl mav M T) = E
        generalize hge : gG na mso (hOf P) (aA ctl n na r mcur mso mcl mav M T) = g
        generalize hAe : aA ctl n na r mcur mso mcl mav M T = A at *
        refine ⟨0, true, fun u => u.1 = 1 ∧ (∀ c p a, c < 12 → p < 13 → a < 12 → u.2.2.2.2.1 (iD c p a) = fF ctl r E g c p a) ∧ (∀ c a, c < 12 → a < 12 → u.2.2.2.2.2.1 (12 * c + a) = sL (fun p => A c p a) 13 ∧ u.2.2.2.2.2.1 (144 + 12 * c + a) = sL (fun p => E c p a) 13 ∧ u.2.2.2.2.2.1 (288 + 12 * c + a) = sL (fun p => fF ctl r E g c p a) 13) ∧ (∀ a, a < 12 → u.2.2.2.2.2.2.1 a = sL (fun c => u.2.2.2.2.2.1 (288 + 12 * c + a)) 12) ∧ (∀ c, c < 12 → u.2.2.2.2.2.2.2.1 c = if ctl c = true then -(g c) else 0) ∧ rdL (lc ctl E na n n) u.2.2.2.1 u.2.2.2.2.2.2.2.2, fun u => u.1 = 0 ∧ u.2.1 = 1 ∧ (∀ c a, c < 12 → a < 12 → u.2.2.2.2.1 (12 * c + a) = sL (fun p => A c p a) 13 ∧ u.2.2.2.2.1 (144 + 12 * c + a) = sL (fun p => E c p a) 13 ∧ u.2.2.2.2.1 (288 + 12 * c + a) = sL (fun p => fF ctl r E g c p a) 13) ∧ (∀ c, c < 12 → u.2.2.2.2.2.1 c = if ctl c = true then -(g c) else 0) ∧ rdI E (lc ctl E na n n) u.2.2.1 u.2.2.2.2.2.2, fun post hp => ?_, fun post hp => ?_, ?_⟩
        · refine sp_consD K hctl hU' hcol hok hSh hH (fun o' R' S' G' OC' OP' q1 q2 q3 q4 q5 => hp _ ?_)
          rw [hAe, hEe, hge] at q1 q2
          rw [hAe, hge] at q4
          rw [hAe, hEe] at q5
          exact ⟨rfl, q1, q2, q3, q4, q5⟩
        · refine sp_hindM i2 a1 hP hok hC hcur (fun k' q1 q2 q3 _ => (no1 k' q1 q2 q3).elim) (fun _ q' _ p1 _ => (no2 q' p1).elim) (fun _ _ => ⟨fun z => absurd r3 (z r r1), fun r' h1 h2 => ?_⟩)
          have er := r4 r' h1 h2
          rw [er]
          refine sp_consM K hctl hP hcol hok hC hrep.2.2.1 (fun o' L' S' OU' IT' q2 q4 q5 => hp _ ?_)
          rw [hAe, hEe, hge] at q2
          rw [hAe, hge] at q4
          rw [hAe, hEe] at q5
          exact ⟨rfl, rfl, q2, q4, q5⟩
        · rintro ⟨u1, u2, u3, u4, u5, u6, u7, u8, u9⟩ ⟨v1, v2, v3, v4, v5, v6, v7⟩ ⟨d1, d2, d3, d4, d5, d6⟩ ⟨m1, m2, m3, m4, m5⟩
          dsimp only at *
          have eqS : ∀ i, i < 432 → u6 i = v5 i := fun i hi => by
            have hc : i % 144 / 12 < 12 := by omega
            have ha : i % 12 < 12 := by omega
            obtain ⟨x1, x2, x3⟩ := d3 _ _ hc ha
            obtain ⟨y1, y2, y3⟩ := m3 _ _ hc ha
            have : i / 144 = 0 ∨ i / 144 = 1 ∨ i / 144 = 2 := by omega
            rcases this with z | z | z
            · rw [show 12 * (i % 144 / 12) + i % 12 = i by omega] at x1 y1
              rw [x1, y1]
            · rw [show 144 + 12 * (i % 144 / 12) + i % 12 = i by omega] at x2 y2
              rw [x2, y2]
            · rw [show 288 + 12 * (i % 144 / 12) + i % 12 = i by omega] at x3 y3
              rw [x3, y3]
          refine ⟨m1, d1, m2, fun c h1 h2 => ?_, fun z => (by cases z), fun _ => ⟨eqS, fun a ha => ?_, fun c hc => ?_, lc ctl E na n n, E, d6, m5, ?_, fun i t ht => ?_⟩⟩
          · rw [m4 c h2, if_neg (fun z => by have := hctl c z; omega)]
          · rw [d4 a ha]
            exact sL_congr fun c hc => eqS _ (by omega)
          · rw [d5 c hc, m4 c hc]
          · have := lcs_le ctl E a1 i2 n (Nat.le_refl _)
            omega
          · obtain ⟨x1, x2, x3⟩ := lc_mem (List.mem_of_getElem? ht)
            refine ⟨by omega, by omega, by omega, ?_⟩
            rw [d2 _ _ _ (by omega) (by omega) (by omega)]
            unfold fF
            rw [if_neg (by omega)]
