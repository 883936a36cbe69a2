/-! pure: an open item read, on both sides -/
theorem pl_c {c d b : Nat} (hc : c < 12) (hd : d < 12) (hb : b < 12) : nI (iD c (d + 1) b) / 156 = nI c := by
  have h : nI (iD c (d + 1) b) / 156 = nI (iD c (d + 1) b / 156) := pk_div (d := 156) (by unfold iD; omega) (by decide) (by decide)
  rw [h]; congr 1; unfold iD; omega
theorem pl_d {c d b : Nat} (hc : c < 12) (hd : d < 12) (hb : b < 12) : ((nI (iD c (d + 1) b) / 12) - (nI (iD c (d + 1) b) / 12) / 13 * 13) - 1 = nI d := by
  have h : nI (iD c (d + 1) b) / 12 = nI (iD c (d + 1) b / 12) := pk_div (d := 12) (by unfold iD; omega) (by decide) (by decide)
  have h2 : nI (iD c (d + 1) b / 12) - nI (iD c (d + 1) b / 12) / 13 * 13 = nI (iD c (d + 1) b / 12 % 13) := pk_rem (d := 13) (by unfold iD; omega) (by decide) (by decide)
  rw [h, h2, show iD c (d + 1) b / 12 % 13 = d + 1 by unfold iD; omega, nI_pred]
theorem pl_b {c d b : Nat} (hc : c < 12) (hd : d < 12) (hb : b < 12) : nI (iD c (d + 1) b) - nI (iD c (d + 1) b) / 12 * 12 = nI b := by
  have h2 : nI (iD c (d + 1) b) - nI (iD c (d + 1) b) / 12 * 12 = nI (iD c (d + 1) b % 12) := pk_rem (d := 12) (by unfold iD; omega) (by decide) (by decide)
  rw [h2]; congr 1; unfold iD; omega
theorem cs_openItem {d : Bool} {l : List (Nat × Nat × Nat)} {E : Nat → Nat → Nat → Int64} {o1 o2 : Int32} {R IT : Nat → Int64} {OP : Nat → Int32} (hd : d = true → rdL l o1 OP ∧ rdI E l o2 IT ∧ l.length ≤ 1584 ∧ ∀ (i : Nat) (t : Nat × Nat × Nat), l[i]? = some t → t.1 < 12 ∧ t.2.1 < 12 ∧ t.2.2 < 12 ∧ R (iD t.1 (t.2.1 + 1) t.2.2) = E t.1 (t.2.1 + 1) t.2.2) (h0 : d = false → o1 = 0) (a f tw : Int32) : (∃ v : Int64, (∀ (post : Int64 → Unit → Prop) (thr : Prop), post v () → wp_D_openItem a f o1 R OP post thr) ∧ ∀ post : Int64 → Int32 → Prop, post v 0 → wp_M_openItem a f tw (bI d) o2 IT post) ∨ ((∀ (post : Int64 → Unit → Prop) (thr : Prop), thr → wp_D_openItem a f o1 R OP post thr) ∧ ∀ post : Int64 → Int32 → Prop, post 0 1 → wp_M_openItem a f tw (bI d) o2 IT post) := by
  cases d with
  | false =>
    have e := h0 rfl
    subst e
    refine Or.inr ⟨fun post thr ht => ?_, fun post hp => ?_⟩
    · unfold wp_D_openItem wp_R_openCount
      exact ⟨fun _ => ht, fun z => ⟨fun y => absurd y z, fun _ => ht⟩⟩
    · unfold wp_M_openItem
      exact ⟨fun _ => ⟨fun z => absurd rfl z, fun _ => hp⟩, fun z => absurd rfl z⟩
  | true =>
    obtain ⟨hL, hI, hl, hb⟩ := hd rfl
    have e1 := hL.1
    have e2 := hI.1
    subst e1; subst e2
    have thrM : ∀ post : Int64 → Int32 → Prop, post 0 1 → ((¬ (1 : Int32) = 1 → (vp_in ((4 * a) + f) 6400 ∧ post (IT (Int32.toNatClampNeg ((4 * a) + f))) 1)) ∧ ((1 : Int32) = 1 → post 0 1)) := fun post hp => ⟨fun z => absurd rfl z, fun _ => hp⟩
    rcases pk_ix a (n := l.length) (by omega) with z | z | ⟨i, hi, rfl⟩
    · refine Or.inr ⟨fun post thr ht => ?_, fun post hp => ?_⟩
      · unfold wp_D_openItem
        exact ⟨fun _ => ht, fun y => absurd z y⟩
      · unfold wp_M_openItem
        exact ⟨fun y => absurd y (by decide), fun _ => ⟨fun _ => thrM post hp, fun y => absurd z y⟩⟩
    · have z2 : ¬ a < nI l.length := fun y => by
        rw [Int32.lt_iff_toInt_lt] at y
        rw [Int32.le_iff_toInt_le] at z
        omega
      refine Or.inr ⟨fun post thr ht => ?_, fun post hp => ?_⟩
      · unfold wp_D_openItem wp_R_openCount
        exact ⟨fun _ => ht, fun _ => ⟨fun y => absurd y z2, fun _ => ht⟩⟩
      · unfold wp_M_openItem
        exact ⟨fun y => absurd y (by decide), fun _ => ⟨fun _ => thrM post hp, fun _ => ⟨fun _ => thrM post hp, fun y => absurd z y⟩⟩⟩
    · obtain ⟨t, ht⟩ : ∃ t, l[i]? = some t := ⟨l[i], List.getElem?_eq_getElem hi⟩
      obtain ⟨b1, b2, b3, b4⟩ := hb i t ht
      obtain ⟨g1, g2, g3, g4⟩ := hI.2 i t ht
      have gO := hL.2 i t ht
      have q1 : nI i < nI l.length := nI_lt hi (by omega)
      have q2 : ¬ nI l.length ≤ nI i := nI_ge hi (by omega)
      have q3 : ¬ nI i < 0 := nI_pos (by omega)
      have hin : vp_in (nI i) 1584 := vp_in_nI (by omega) (by decide)
      have hinP : vp_in (nI (iD t.1 (t.2.1 + 1) t.2.2)) 1872 := vp_in_nI (by unfold iD; omega) (by decide)
      have ci : (nI i).toNatClampNeg = i := nI_clamp (by omega)
      have cp : (nI (iD t.1 (t.2.1 + 1) t.2.2)).toNatClampNeg = iD t.1 (t.2.1 + 1) t.2.2 := nI_clamp (by unfold iD; omega)
      have mm : ∀ (q : Nat) (v : Int64), q < 4 → IT (4 * i + q) = v → ∀ post : Int64 → Int32 → Prop, post v 0 → wp_M_openItem (nI i) (nI q) tw (bI true) (nI l.length) IT post := fun q v hq hv post hp => by
        unfold wp_M_openItem
        refine ⟨fun y => absurd y (by decide), fun _ => ⟨fun y => absurd y q3, fun _ => ⟨fun y => absurd y q2, fun _ => ⟨fun y => absurd y (nI_pos (by omega)), fun _ => ⟨fun y => absurd y (nI_ge (b := 4) hq (by decide)), fun _ => ⟨fun _ => ?_, fun y => absurd y (by decide)⟩⟩⟩⟩⟩⟩
        rw [show 4 * nI i + nI q = nI (4 * i + q) by rw [show (4 : Int32) = nI 4 from rfl, pk_mul, nI_add], nI_clamp (n := 4 * i + q) (by omega), hv]
        exact ⟨vp_in_nI (by omega) (by decide), hp⟩
      by_cases f0 : f = 0
      · subst f0
        refine Or.inl ⟨lN t.1, fun post thr hp => ?_, mm 0 _ (by omega) g1⟩
        unfold wp_D_openItem wp_R_openCount wp_R_openCompany
        rw [ci, gO, pl_c b1 b2 b3]
        rw [← nI_l (n := t.1) (by omega)] at hp
        exact ⟨fun y => absurd y q3, fun _ => ⟨fun _ => ⟨fun _ => ⟨hin, hp⟩, fun y => absurd y (by decide), fun y => absurd y (by decide), fun y => absurd y (by decide), fun y => absurd rfl y⟩, fun y => absurd q1 y⟩⟩
      · by_cases f1 : f = 1
        · subst f1
          refine Or.inl ⟨lN t.2.1, fun post thr hp => ?_, mm 1 _ (by omega) g2⟩
          unfold wp_D_openItem wp_R_openCount wp_R_openPartner
          rw [ci, gO, pl_d b1 b2 b3]
          rw [← nI_l (n := t.2.1) (by omega)] at hp
          exact ⟨fun y => absurd y q3, fun _ => ⟨fun _ => ⟨fun y => absurd y (by decide), fun _ => ⟨hin, hp⟩, fun y => absurd y (by decide), fun y => absurd y (by decide), fun _ y => absurd rfl y⟩, fun y => absurd q1 y⟩⟩
        · by_cases f2 : f = 2
          · subst f2
            refine Or.inl ⟨lN t.2.2, fun post thr hp => ?_, mm 2 _ (by omega) g3⟩
            unfold wp_D_openItem wp_R_openCount wp_R_openAccount
            rw [ci, gO, pl_b b1 b2 b3]
            rw [← nI_l (n := t.2.2) (by omega)] at hp
            exact ⟨fun y => absurd y q3, fun _ => ⟨fun _ => ⟨fun y => absurd y (by decide), fun y => absurd y (by decide), fun _ => ⟨hin, hp⟩, fun y => absurd y (by decide), fun _ _ y => absurd rfl y⟩, fun y => absurd q1 y⟩⟩
          · by_cases f3 : f = 3
            · subst f3
              refine Or.inl ⟨E t.1 (t.2.1 + 1) t.2.2, fun post thr hp => ?_, mm 3 _ (by omega) g4⟩
              unfold wp_D_openItem wp_R_openCount wp_R_openAmount
              rw [ci, gO, cp, b4]
              exact ⟨fun y => absurd y q3, fun _ => ⟨fun _ => ⟨fun y => absurd y (by decide), fun y => absurd y (by decide), fun y => absurd y (by decide), fun _ => ⟨hin, hinP, hp⟩, fun _ _ _ y => absurd rfl y⟩, fun y => absurd q1 y⟩⟩
            · refine Or.inr ⟨fun post thr ht => ?_, fun post hp => ?_⟩
              · unfold wp_D_openItem wp_R_openCount
                exact ⟨fun y => absurd y q3, fun _ => ⟨fun _ => ⟨fun y => absurd y f0, fun y => absurd y f1, fun y => absurd y f2, fun y => absurd y f3, fun _ _ _ _ => ht⟩, fun y => absurd q1 y⟩⟩
              · unfold wp_M_openItem
                refine ⟨fun y => absurd y (by decide), fun _ => ⟨fun y => absurd y q3, fun _ => ⟨fun y => absurd y q2, fun _ => ⟨fun _ => thrM post hp, fun y => ⟨fun _ => thrM post hp, fun w => ?_⟩⟩⟩⟩⟩
                exfalso
                rcases pk_ix f (n := 4) (by omega) with v | v | ⟨q, hq, rfl⟩
                · exact y v
                · exact w v
                · have : q = 0 ∨ q = 1 ∨ q = 2 ∨ q = 3 := by omega
                  rcases this with rfl | rfl | rfl | rfl
                  · exact f0 rfl
                  · exact f1 rfl
                  · exact f2 rfl
                  · exact f3 rfl
