/-! pure: the law's loop -/
def LI (L j : Nat) (i xc xa xr : Int32) (xcur xso xcl xav : Nat → Int32) (X T : Nat → Int64) (P CL U : Nat → Int32) (Sh C Gs : Nat → Int64) (md rc ra ro : Int32) (R S G OC : Nat → Int64) (OP : Nat → Int32) (tw mc ma dn it : Int32) (mcur mso mcl mav hd : Nat → Int32) (M T' Lf Sp Ou IT out : Nat → Int64) : Prop := i = nI (6 * j) ∧ 6 * j ≤ L ∧ ∃ (n na : Nat) (d : Bool), ic n xc xcur mc mcur ∧ ia na xa xr xso ma mso ∧ ir xcl xav mcl mav ∧ sOK n na mso X M ∧ hd = P ∧ T' = T ∧ hInv P U Sh ∧ rep n d md ro R S G OC OP dn it Sp Ou IT
theorem ir_z : ir (upd (fun _ => 0) 0 1000000) (upd (fun _ => 0) 0 1000000) (upd (fun _ => 0) 0 1000000) (upd (fun _ => 0) 0 1000000) := by
  intro i hi
  by_cases e : i = 0
  · subst e
    exact ⟨rfl, rfl, ⟨1000000, by omega, pk_us⟩, ⟨1000000, by omega, pk_us⟩⟩
  · exact ⟨rfl, rfl, ⟨0, by omega, pk_un e⟩, ⟨0, by omega, pk_un e⟩⟩
theorem sOK_z : sOK 1 0 (fun _ => 0) (fun _ => 0) (fun _ => 0) := fun _ _ _ _ _ _ =>
  ⟨rfl, by show -1000000000000 ≤ (0 : Int64).toInt; rw [j_0]; omega, by show (0 : Int64).toInt ≤ 1000000000000; rw [j_0]; omega, fun _ => rfl⟩
theorem l6 {L j : Nat} (hL : L ≤ 3072) (hj : 6 * j ≤ L) (h : ¬ ((Int32.ofNat L) - 6) < nI (6 * j)) : 6 * j + 6 ≤ L := by
  have e : ((Int32.ofNat L) - 6).toInt = (L : Int) - 6 := pk_sub_toInt (a := L) (b := 6) (by omega) (by omega)
  rw [Int32.lt_iff_toInt_lt, e, nI_toInt (by omega)] at h
  omega
set_option maxHeartbeats 8000000 in
theorem law_wp {L : Nat} {xs : Nat → Int32} (hL : L ≤ 3072) : wp_L_law L xs := by
  unfold wp_L_law
  refine ⟨LI L, fun j _ _ _ _ _ _ _ _ _ _ _ _ _ _ _ _ _ _ _ _ _ _ _ _ _ _ _ _ _ _ _ _ _ _ _ _ _ _ _ _ _ _ => 513 - j, ⟨rfl, by omega, 1, 0, false, ⟨by omega, by omega, rfl, rfl, fun _ _ => rfl, fun i _ => ⟨0, by omega, rfl⟩⟩, ⟨by omega, rfl, rfl, fun _ _ => rfl, fun i hi => absurd hi (Nat.not_lt_zero _), Or.inl ⟨rfl, fun i hi => absurd hi (Nat.not_lt_zero _)⟩⟩, ir_z, sOK_z, rfl, rfl, hInv_z, ⟨rfl, rfl, fun _ _ _ => rfl, fun _ => rfl, fun z => by cases z⟩⟩, ?_⟩
  intro j i xc xa xr xcur xso xcl xav X T P CL U Sh C Gs md rc ra ro R S G OC OP tw mc ma dn it mcur mso mcl mav hd M T' Lf Sp Ou IT out h
  obtain ⟨rfl, hj, n, na, d, hic, hia, hir, hs, rfl, rfl, hI, hrep⟩ := h
  refine ⟨fun _ => by omega, fun hx => ?_⟩
  have h6 := l6 hL hj hx
  clear hx
  have hic0 := hic
  have hia0 := hia
  have hrep0 := hrep
  obtain ⟨i1, i2, e1, e2, -, -⟩ := hic
  obtain ⟨a1, e3, e4, hso, -, -⟩ := hia
  obtain ⟨e5, e6, -, r4, r5⟩ := hrep
  subst e1; subst e2; subst e3; subst e4; subst e5; subst e6
  have v0 : vp_in (nI (6 * j)) L := vp_in_nI (by omega) (by omega)
  have v1 : vp_in (nI (6 * j) + 1) L := by rw [nI_1]; exact vp_in_nI (by omega) (by omega)
  have v2 : vp_in (nI (6 * j) + 2) L := by rw [show nI (6 * j) + 2 = nI (6 * j + 2) from nI_add _ 2]; exact vp_in_nI (by omega) (by omega)
  have v3 : vp_in (nI (6 * j) + 3) L := by rw [show nI (6 * j) + 3 = nI (6 * j + 3) from nI_add _ 3]; exact vp_in_nI (by omega) (by omega)
  have v4 : vp_in (nI (6 * j) + 4) L := by rw [show nI (6 * j) + 4 = nI (6 * j + 4) from nI_add _ 4]; exact vp_in_nI (by omega) (by omega)
  have v5 : vp_in (nI (6 * j) + 5) L := by rw [show nI (6 * j) + 5 = nI (6 * j + 5) from nI_add _ 5]; exact vp_in_nI (by omega) (by omega)
  have hi6 : nI (6 * j) + 6 = nI (6 * (j + 1)) := nI_add (6 * j) 6
  have hj6 : 6 * (j + 1) ≤ L := by omega
  have hmu : 513 - (j + 1) < 513 - j := by omega
  refine ⟨v0, by omega, fun x40 _ => ⟨fun _ => ?_, fun _ => ?_, fun _ => ?_, fun _ => ?_, fun _ => ?_, fun _ => ?_, fun _ => ?_, fun _ => ?_, fun _ => ?_, fun _ => ?_, fun _ => ?_, fun _ => ?_, fun _ => ?_, fun _ => ?_, fun _ => ?_, fun _ => ?_, fun _ _ _ _ _ _ _ _ _ _ _ _ _ _ _ _ => ?_⟩⟩
  · obtain ⟨r, u, u', n', hD, hM, hn', hic'⟩ := cs_company hic0 (xs (Int32.toNatClampNeg (nI (6 * j) + 1))) tw
    exact ⟨v1, hD _ ⟨v1, hM _ ⟨fun _ => ⟨⟨hi6, hj6, n', na, d, hic', hia0, hir, sOK_mono hs hn' (Nat.le_refl _) (fun _ _ => rfl), rfl, rfl, hI, rep_mono hrep0 hn'⟩, hmu⟩, fun z => absurd rfl z⟩⟩⟩
  · obtain ⟨r, u, u', na', hD, hM, hn', hia', hso'⟩ := cs_account hia0 (xs (Int32.toNatClampNeg (nI (6 * j) + 1))) tw
    exact ⟨v1, hD _ ⟨v1, hM _ ⟨fun _ => ⟨⟨hi6, hj6, n, na', d, hic0, hia', hir, sOK_mono hs (Nat.le_refl _) hn' hso', rfl, rfl, hI, hrep0⟩, hmu⟩, fun z => absurd rfl z⟩⟩⟩
  · obtain ⟨r, P', hD, hM⟩ := cs_hold (CL := CL) (C := C) (G := Gs) hI i2 (xs (Int32.toNatClampNeg (nI (6 * j) + 1))) (xs (Int32.toNatClampNeg (nI (6 * j) + 2))) (xs (Int32.toNatClampNeg (nI (6 * j) + 3))) tw
    exact ⟨v1, v2, v3, hD _ (fun L' U' S' C' G' hI' => ⟨v1, v2, v3, hM _ ⟨fun _ => ⟨⟨hi6, hj6, n, na, d, hic0, hia0, hir, hs, rfl, rfl, hI', hrep0⟩, hmu⟩, fun z => absurd rfl z⟩⟩)⟩
  · obtain ⟨r, u, u', hD, hM, hir'⟩ := cs_rate hir (xs (Int32.toNatClampNeg (nI (6 * j) + 1))) (xs (Int32.toNatClampNeg (nI (6 * j) + 2))) (xs (Int32.toNatClampNeg (nI (6 * j) + 3))) tw
    exact ⟨v1, v2, v3, hD _ ⟨v1, v2, v3, hM _ ⟨fun _ => ⟨⟨hi6, hj6, n, na, d, hic0, hia0, hir', hs, rfl, rfl, hI, hrep0⟩, hmu⟩, fun z => absurd rfl z⟩⟩⟩
  · obtain ⟨r, u, u', hD, hM, hs'⟩ := cs_post i2 a1 hso hs (xs (Int32.toNatClampNeg (nI (6 * j) + 1))) (xs (Int32.toNatClampNeg (nI (6 * j) + 2))) (xs (Int32.toNatClampNeg (nI (6 * j) + 3))) _ tw
    exact ⟨v1, v2, v3, v4, v5, hD _ ⟨v1, v2, v3, v4, v5, hM _ ⟨fun _ => ⟨⟨hi6, hj6, n, na, d, hic0, hia0, hir, hs', rfl, rfl, hI, hrep0⟩, hmu⟩, fun z => absurd rfl z⟩⟩⟩
  · obtain ⟨r, u, u', hD, hM, hT⟩ := cs_historicF (X := T') (M := T') i2 a1 hso rfl (xs (Int32.toNatClampNeg (nI (6 * j) + 1))) (xs (Int32.toNatClampNeg (nI (6 * j) + 2))) _ tw
    exact ⟨v1, v2, v3, v4, hD _ ⟨v1, v2, v3, v4, hM _ ⟨fun _ => ⟨⟨hi6, hj6, n, na, d, hic0, hia0, hir, hs, rfl, hT.symm, hI, hrep0⟩, hmu⟩, fun z => absurd rfl z⟩⟩⟩
  · unfold wp_L_posted wp_M_thrown
    rcases cs_posted i2 a1 hs (xs (Int32.toNatClampNeg (nI (6 * j) + 1))) (xs (Int32.toNatClampNeg (nI (6 * j) + 2))) (xs (Int32.toNatClampNeg (nI (6 * j) + 3))) tw with ⟨v, hD, hM⟩ | ⟨hD, hM⟩
    · exact ⟨v1, v2, v3, hD _ _ ⟨v1, v2, v3, hM _ ⟨fun _ => ⟨fun z => absurd rfl z, fun _ => ⟨fun _ => ⟨⟨hi6, hj6, n, na, d, hic0, hia0, hir, hs, rfl, rfl, hI, hrep0⟩, hmu⟩, fun z => absurd pk_uLs z⟩⟩, fun z => absurd rfl z⟩⟩⟩
    · exact ⟨v1, v2, v3, hD _ _ ⟨v1, v2, v3, hM _ ⟨fun _ => ⟨fun _ => ⟨⟨hi6, hj6, n, na, d, hic0, hia0, hir, hs, rfl, rfl, hI, hrep0⟩, hmu⟩, fun z => absurd z (by decide)⟩, fun z => absurd rfl z⟩⟩⟩
  · obtain ⟨r, hD, hM⟩ := cs_isBalanced i2 a1 hs (xs (Int32.toNatClampNeg (nI (6 * j) + 1))) tw
    exact ⟨v1, hD _ ⟨v1, hM _ ⟨fun _ => ⟨⟨hi6, hj6, n, na, d, hic0, hia0, hir, hs, rfl, rfl, hI, hrep0⟩, hmu⟩, fun z => absurd rfl z⟩⟩⟩
  · obtain ⟨r, hD, hM⟩ := cs_controlled hI i2 (xs (Int32.toNatClampNeg (nI (6 * j) + 1))) tw
    exact ⟨v1, hD _ ⟨v1, hM _ ⟨fun _ => ⟨⟨hi6, hj6, n, na, d, hic0, hia0, hir, hs, rfl, rfl, hI, hrep0⟩, hmu⟩, fun z => absurd rfl z⟩⟩⟩
  · obtain ⟨r, hD, hM⟩ := cs_effective hI i2 (xs (Int32.toNatClampNeg (nI (6 * j) + 1))) tw
    exact ⟨v1, hD _ ⟨v1, hM _ ⟨fun _ => ⟨⟨hi6, hj6, n, na, d, hic0, hia0, hir, hs, rfl, rfl, hI, hrep0⟩, hmu⟩, fun z => absurd rfl z⟩⟩⟩
  · obtain ⟨r, d', PD, PM, hD, hM, hr'⟩ := cs_consolidate (T := T') (rc := rc) (ra := ra) (tw := tw) (Lf := Lf) hic0 hia0 hir hs hI hrep0
    exact hD _ (fun u hu => hM _ (fun u' hu' => ⟨fun _ => ⟨⟨hi6, hj6, n, na, d', hic0, hia0, hir, hs, rfl, rfl, hI, (hr' u u' hu hu').2⟩, hmu⟩, fun z => absurd rfl z⟩))
  · unfold wp_L_group wp_M_thrown
    rcases cs_group a1 (d := d) (fun z => (r5 z).2.1) (xs (Int32.toNatClampNeg (nI (6 * j) + 1))) tw with ⟨v, hD, hM⟩ | ⟨hD, hM⟩
    · exact ⟨v1, hD _ _ ⟨v1, hM _ ⟨fun _ => ⟨fun z => absurd rfl z, fun _ => ⟨fun _ => ⟨⟨hi6, hj6, n, na, d, hic0, hia0, hir, hs, rfl, rfl, hI, hrep0⟩, hmu⟩, fun z => absurd pk_uLs z⟩⟩, fun z => absurd rfl z⟩⟩⟩
    · exact ⟨v1, hD _ _ ⟨v1, hM _ ⟨fun _ => ⟨fun _ => ⟨⟨hi6, hj6, n, na, d, hic0, hia0, hir, hs, rfl, rfl, hI, hrep0⟩, hmu⟩, fun z => absurd z (by decide)⟩, fun z => absurd rfl z⟩⟩⟩
  · unfold wp_L_trace wp_M_thrown
    rcases cs_trace i2 a1 (d := d) (fun z => (r5 z).1) (xs (Int32.toNatClampNeg (nI (6 * j) + 1))) (xs (Int32.toNatClampNeg (nI (6 * j) + 2))) (xs (Int32.toNatClampNeg (nI (6 * j) + 3))) tw with ⟨v, hD, hM⟩ | ⟨hD, hM⟩
    · exact ⟨v1, v2, v3, hD _ _ ⟨v1, v2, v3, hM _ ⟨fun _ => ⟨fun z => absurd rfl z, fun _ => ⟨fun _ => ⟨⟨hi6, hj6, n, na, d, hic0, hia0, hir, hs, rfl, rfl, hI, hrep0⟩, hmu⟩, fun z => absurd pk_uLs z⟩⟩, fun z => absurd rfl z⟩⟩⟩
    · exact ⟨v1, v2, v3, hD _ _ ⟨v1, v2, v3, hM _ ⟨fun _ => ⟨fun _ => ⟨⟨hi6, hj6, n, na, d, hic0, hia0, hir, hs, rfl, rfl, hI, hrep0⟩, hmu⟩, fun z => absurd z (by decide)⟩, fun z => absurd rfl z⟩⟩⟩
  · unfold wp_L_minority wp_M_thrown
    rcases cs_minority i2 (d := d) (fun z => (r5 z).2.2.1) (xs (Int32.toNatClampNeg (nI (6 * j) + 1))) tw with ⟨v, hD, hM⟩ | ⟨hD, hM⟩
    · exact ⟨v1, hD _ _ ⟨v1, hM _ ⟨fun _ => ⟨fun z => absurd rfl z, fun _ => ⟨fun _ => ⟨⟨hi6, hj6, n, na, d, hic0, hia0, hir, hs, rfl, rfl, hI, hrep0⟩, hmu⟩, fun z => absurd pk_uLs z⟩⟩, fun z => absurd rfl z⟩⟩⟩
    · exact ⟨v1, hD _ _ ⟨v1, hM _ ⟨fun _ => ⟨fun _ => ⟨⟨hi6, hj6, n, na, d, hic0, hia0, hir, hs, rfl, rfl, hI, hrep0⟩, hmu⟩, fun z => absurd z (by decide)⟩, fun z => absurd rfl z⟩⟩⟩
  · obtain ⟨r, hD, hM⟩ := cs_openItems (d := d) (o1 := ro) (o2 := it) (fun z => by
      obtain ⟨-, -, -, l, E, g1, g2, -⟩ := r5 z
      rw [g1.1, g2.1]) r4 tw
    exact hD _ (hM _ ⟨fun _ => ⟨⟨hi6, hj6, n, na, d, hic0, hia0, hir, hs, rfl, rfl, hI, hrep0⟩, hmu⟩, fun z => absurd rfl z⟩)
  · unfold wp_L_openItem wp_M_thrown
    obtain ⟨l, E, hlE⟩ : ∃ (l : List (Nat × Nat × Nat)) (E : Nat → Nat → Nat → Int64), d = true → rdL l ro OP ∧ rdI E l it IT ∧ l.length ≤ 1584 ∧ ∀ (i : Nat) (t : Nat × Nat × Nat), l[i]? = some t → t.1 < 12 ∧ t.2.1 < 12 ∧ t.2.2 < 12 ∧ R (iD t.1 (t.2.1 + 1) t.2.2) = E t.1 (t.2.1 + 1) t.2.2 := by
      by_cases z : d = true
      · obtain ⟨-, -, -, l, E, g⟩ := r5 z
        exact ⟨l, E, fun _ => g⟩
      · exact ⟨[], fun _ _ _ => 0, fun w => absurd w z⟩
    rcases cs_openItem hlE r4 (xs (Int32.toNatClampNeg (nI (6 * j) + 1))) (xs (Int32.toNatClampNeg (nI (6 * j) + 2))) tw with ⟨v, hD, hM⟩ | ⟨hD, hM⟩
    · exact ⟨v1, v2, hD _ _ ⟨v1, v2, hM _ ⟨fun _ => ⟨fun z => absurd rfl z, fun _ => ⟨fun _ => ⟨⟨hi6, hj6, n, na, d, hic0, hia0, hir, hs, rfl, rfl, hI, hrep0⟩, hmu⟩, fun z => absurd pk_uLs z⟩⟩, fun z => absurd rfl z⟩⟩⟩
    · exact ⟨v1, v2, hD _ _ ⟨v1, v2, hM _ ⟨fun _ => ⟨fun _ => ⟨⟨hi6, hj6, n, na, d, hic0, hia0, hir, hs, rfl, rfl, hI, hrep0⟩, hmu⟩, fun z => absurd z (by decide)⟩, fun z => absurd rfl z⟩⟩⟩
  · exact ⟨⟨hi6, hj6, n, na, d, hic0, hia0, hir, hs, rfl, rfl, hI, hrep0⟩, hmu⟩
