/-! pure: the law's invariant -/
theorem cs_historicF {n na : Nat} {xso mso : Nat → Int32} {X M : Nat → Int64} (hn : n ≤ 12) (hna : na ≤ 12) (hso : ∀ i, i < 12 → xso i = mso i) (h : X = M) (c a : Int32) (v : Int64) (mt : Int32) : ∃ (r : Int32) (u : Nat → Int64) (u' : Int32 × (Nat → Int64)),
    (∀ post : Int32 → (Nat → Int64) → Prop, post r u → wp_D_historic c a v (nI n) (nI na) xso X post) ∧ (∀ post : Int32 → (Int32 × (Nat → Int64)) → Prop, post r u' → wp_M_historic c a v mt (nI n) (nI na) mso M post) ∧ u = u'.2 := by
  by_cases hc : ∃ k b, k < n ∧ b < na ∧ c = nI k ∧ a = nI b ∧ mso b = 3 ∧ ¬ 1000000000000 < v ∧ (-1000000000000) ≤ v
  · obtain ⟨k, b, hk, hb, rfl, rfl, h3, v1, v2⟩ := hc
    have hinb : vp_in (nI b) 12 := vp_in_nI (by omega) (by decide)
    have hin : vp_in (nI (k * 12 + b)) 144 := vp_in_nI (by omega) (by decide)
    refine ⟨1, vp_updL X (k * 12 + b) v, (0, vp_updL M (k * 12 + b) v), fun post hp => ?_, fun post hp => ?_, by rw [h]⟩
    · unfold wp_D_historic
      refine e_c1 hk hn ⟨fun z => absurd z (by decide), fun _ => e_a1 hb hna ⟨fun z => absurd z (by decide), fun _ => ⟨hinb, ?_⟩⟩⟩
      rw [nI_clamp (by omega), hso b (by omega), ix12, nI_clamp (by omega)]
      exact ⟨fun _ => ⟨fun z => absurd z v1, fun _ => ⟨fun _ => ⟨hin, hp⟩, fun z => absurd v2 z⟩⟩, fun z => absurd h3 z⟩
    · unfold wp_M_historic
      refine f_c1 hk hn ⟨fun z => absurd z (by decide), fun _ => f_a1 hb hna ⟨fun z => absurd z (by decide), fun _ => ⟨hinb, ?_⟩⟩⟩
      rw [nI_clamp (by omega), ix12', Nat.mul_comm 12 k, nI_clamp (by omega)]
      exact ⟨fun z => absurd h3 z, fun _ => ⟨fun z => absurd z v1, fun _ => ⟨fun _ => ⟨hin, hp⟩, fun z => absurd v2 z⟩⟩⟩
  · refine ⟨0, X, (0, M), fun post hp => ?_, fun post hp => ?_, h⟩
    · unfold wp_D_historic
      rcases c_or c hn with ⟨k, hk, rfl⟩ | w
      · rcases c_or a hna with ⟨b, hb, rfl⟩ | w
        · have hinb : vp_in (nI b) 12 := vp_in_nI (by omega) (by decide)
          refine e_c1 hk hn ⟨fun z => absurd z (by decide), fun _ => e_a1 hb hna ⟨fun z => absurd z (by decide), fun _ => ⟨hinb, ?_⟩⟩⟩
          rw [nI_clamp (by omega), hso b (by omega)]
          exact ⟨fun z3 => ⟨fun _ => hp, fun z4 => ⟨fun z5 => absurd ⟨k, b, hk, hb, rfl, rfl, z3, z4, z5⟩ hc, fun _ => hp⟩⟩, fun _ => hp⟩
        · exact e_c1 hk hn ⟨fun z => absurd z (by decide), fun _ => e_a0 w ⟨fun _ => hp, fun z => absurd rfl z⟩⟩
      · exact e_c0 w ⟨fun _ => hp, fun z => absurd rfl z⟩
    · unfold wp_M_historic
      rcases c_or c hn with ⟨k, hk, rfl⟩ | w
      · rcases c_or a hna with ⟨b, hb, rfl⟩ | w
        · have hinb : vp_in (nI b) 12 := vp_in_nI (by omega) (by decide)
          refine f_c1 hk hn ⟨fun z => absurd z (by decide), fun _ => f_a1 hb hna ⟨fun z => absurd z (by decide), fun _ => ⟨hinb, ?_⟩⟩⟩
          rw [nI_clamp (by omega)]
          exact ⟨fun _ => hp, fun z3 => ⟨fun _ => hp, fun z4 => ⟨fun z5 => absurd ⟨k, b, hk, hb, rfl, rfl, z3, z4, z5⟩ hc, fun _ => hp⟩⟩⟩
        · exact f_c1 hk hn ⟨fun z => absurd z (by decide), fun _ => f_a0 w ⟨fun _ => hp, fun z => absurd rfl z⟩⟩
      · exact f_c0 w ⟨fun _ => hp, fun z => absurd rfl z⟩
theorem mE_z {k v : Nat} : ¬ mE (hOf (fun _ => 0)) (k + 1) v := fun ⟨_, _, _, h⟩ => absurd h (Nat.lt_irrefl 0)
theorem hOf_z (o d : Nat) : hOf (fun _ => 0) o d = 0 := rfl
theorem mW_z {k v : Nat} : mW (hOf (fun _ => 0)) (k + 1) v = 0 := mS_zero fun o _ => by rw [hOf_z, Nat.mul_zero]
theorem hInv_z : hInv (fun _ => 0) (upd (fun _ => 0) 0 (vp_nar .boolean 1)) (vp_updL (fun _ => 0) 0 10000000000000000) := by
  refine ⟨fun i _ => ⟨0, by omega, rfl⟩, fun v _ => ?_, fun v _ => mE_z, fun v hv => ?_, fun v hv => ?_⟩
  · rw [mS_zero fun o _ => hOf_z o v]; omega
  · by_cases e : v = 0
    · rw [e, pk_us, nz1, mC_mono (j := 0) (k := 4) (v := 0) (by omega) rfl]; rfl
    · rw [pk_un e]
      cases q : mC (hOf (fun _ => 0)) 4 v with
      | false => rfl
      | true =>
        have := mC_deep 0 v mE_z 4 q
        simp [mC, e] at this
  · have e4 : mT (hOf (fun _ => 0)) 4 v = 0 := by
      show 10000 * (10000 * (10000 * (10000 * 0 + mW (hOf (fun _ => 0)) 1 v) + mW (hOf (fun _ => 0)) 2 v) + mW (hOf (fun _ => 0)) 3 v) + mW (hOf (fun _ => 0)) 4 v = 0
      rw [mW_z, mW_z, mW_z, mW_z]
    unfold shN
    rw [e4]
    by_cases e : v = 0
    · rw [e, pk_uLs]; rfl
    · rw [pk_uLn e, if_neg e]; rfl
