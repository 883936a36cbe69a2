/-! pure: the outsiders' part, and the group's amounts -/
theorem shN_le {h : Nat → Nat → Nat} (q : mCol h) (q2 : mOK h) {v : Nat} (hv : v < 12) : shN h 4 v ≤ 10000000000000000 := by
  unfold shN
  by_cases z : v = 0
  · subst z
    rw [mT_0 q2, if_pos rfl]; decide
  · rw [if_neg z]
    have := mT_le q q2 (k := 4) hv
    have e : 10000 ^ 4 = 10000000000000000 := by decide
    rw [e] at this
    show 0 + 1 * mT h 4 v ≤ _
    omega
def net (na : Nat) (mso : Nat → Int32) (St : Nat → Int64) (c : Nat) : Nat → Int64 := sL (fun a => if mso a = 1 then St (12 * c + a) else 0)
theorem ge_1 {k : Nat} (h : k ≤ 10000000000000000) : (10000000000000000 : Int64) - lN k = lN (10000000000000000 - k) := lN_sub (a := 10000000000000000) h
theorem sp_show {na r c : Nat} {xso mso : Nat → Int32} {Sh R St OC : Nat → Int64} {sh : Nat} (hna : na ≤ 12) (hr : r < na) (hc : c < 12) (hso : ∀ i, i < 12 → xso i = mso i) (hsh : sh ≤ 10000000000000000) (hS : Sh c = lN sh) (hb1 : -400000000000000000 ≤ (net na mso St c na).toInt) (hb2 : (net na mso St c na).toInt ≤ 400000000000000000) {post : ((Nat → Int64) × (Nat → Int64)) → Prop}
    (hp : post (vp_updL R ((c * 13 + 0) * 12 + r) (R ((c * 13 + 0) * 12 + r) + sR (net na mso St c na) (10000000000000000 - sh)), vp_updL OC c (-(sR (net na mso St c na) (10000000000000000 - sh))))) : wp_D_showOutsiders (nI c) (nI na) (nI r) xso Sh R St OC post := by
  unfold wp_D_showOutsiders
  refine ⟨fun t i => ∃ b : Nat, b ≤ na ∧ t = net na mso St c b ∧ i = nI b, fun _ i => na - i.toNatClampNeg, ⟨0, by omega, rfl, rfl⟩, ?_⟩
  rintro t i ⟨b, hb, rfl, rfl⟩
  refine ⟨fun hx => ?_, fun hx => ?_⟩
  · have hbe := q_ex (by omega) hb hx
    rw [hbe]
    unfold wp_H_headShare wp_R_setOutsidersCredit
    rw [nI_clamp (n := c) (by omega), hS]
    refine ⟨vp_in_nI hc (by decide), fun x hx => ?_⟩
    rw [ge_1 hsh] at hx
    subst hx
    exact sp_timesShare hb1 hb2 (by omega) ⟨vp_in_nI hc (by decide), sp_add m1_0 hc (by omega) (by omega) hp⟩
  · have hb' := q_in (by omega) hb hx
    have mb := q_mu hb' (show na < 2 ^ 31 by omega)
    rw [nI_clamp (n := b) (by omega), hso b (by omega), nI_1]
    refine ⟨vp_in_nI (by omega) (by decide), fun z => ⟨⟨b + 1, by omega, ?_, rfl⟩, mb⟩, fun z => ?_⟩
    · show _ = net na mso St c b + (if mso b = 1 then St (12 * c + b) else 0)
      rw [if_neg z, Int64.add_zero]
    · unfold wp_R_stepAmount wp_R_stepPlace
      have e1 : (((0 * 12) + nI c) * 12) + nI b = nI (12 * c + b) := by
        rw [Int32.zero_mul, Int32.zero_add, ix12, Nat.mul_comm]
      rw [e1]
      dsimp only
      rw [nI_clamp (n := 12 * c + b) (by omega)]
      refine ⟨vp_in_nI (by omega) (by decide), fun x hx => ⟨⟨b + 1, by omega, ?_, rfl⟩, mb⟩⟩
      show _ = net na mso St c b + (if mso b = 1 then St (12 * c + b) else 0)
      rw [if_pos z]; exact hx
theorem sp_share {n na r c : Nat} {mso P : Nat → Int32} {R St OC : Nat → Int64} (hP : pOK P) (hcol : mCol (hOf P)) (hok : mOK (hOf P)) (hn : n ≤ 12) (hna : na ≤ 12) (hr : r < na) (hc : c < n) (hb1 : -400000000000000000 ≤ (net na mso St c na).toInt) (hb2 : (net na mso St c na).toInt ≤ 400000000000000000) {tw : Int32} {post : (Int32 × (Nat → Int64) × (Nat → Int64)) → Prop}
    (hp : post (0, vp_updL R (156 * c + 13 * r + 0) (R (156 * c + 13 * r + 0) + sR (net na mso St c na) (10000000000000000 - shN (hOf P) 4 c)), vp_updL OC c (-(sR (net na mso St c na) (10000000000000000 - shN (hOf P) 4 c))))) : wp_M_share (nI c) (nI r) tw (nI n) (nI na) mso P R St OC post := by
  have hsh := shN_le hcol hok (v := c) (by omega)
  unfold wp_M_share
  refine ⟨fun t i => ∃ b : Nat, b ≤ na ∧ t = net na mso St c b ∧ i = nI b, fun _ i => na - i.toNatClampNeg, ⟨0, by omega, rfl, rfl⟩, ?_⟩
  rintro t i ⟨b, hb, rfl, rfl⟩
  refine ⟨fun hx => ?_, fun hx => ?_⟩
  · have hbe := q_ex (by omega) hb hx
    rw [hbe]
    refine sp_mEffective hP hok hn hc ?_
    rw [ge_1 hsh]
    refine sp_mPart hb1 hb2 (by omega) ⟨vp_in_nI (by omega) (by decide), ?_⟩
    unfold wp_M_cell
    rw [cM m1_0]
    dsimp only
    rw [nI_clamp (n := 156 * c + 13 * r + 0) (by omega), nI_clamp (n := c) (by omega)]
    exact ⟨vp_in_nI (by omega) (by decide), vp_in_nI (by omega) (by decide), hp⟩
  · have hb' := q_in (by omega) hb hx
    have mb := q_mu hb' (show na < 2 ^ 31 by omega)
    rw [nI_clamp (n := b) (by omega), nI_1]
    refine ⟨vp_in_nI (by omega) (by decide), fun z x hx => ⟨⟨b + 1, by omega, ?_, rfl⟩, mb⟩, fun z => ?_⟩
    · show _ = net na mso St c b + (if mso b = 1 then St (12 * c + b) else 0)
      rw [if_neg z]; exact hx
    · rw [ix12', nI_clamp (n := 12 * c + b) (by omega)]
      refine ⟨vp_in_nI (by omega) (by decide), fun x hx => ⟨⟨b + 1, by omega, ?_, rfl⟩, mb⟩⟩
      show _ = net na mso St c b + (if mso b = 1 then St (12 * c + b) else 0)
      rw [if_pos z]; exact hx
def mk2 (c b a : Nat) : Nat := if a < b then c + 1 else c
set_option maxHeartbeats 1000000 in
theorem sp_finish {n na : Nat} (hn : n ≤ 12) (hna : na ≤ 12) {St G : Nat → Int64} (hG : ∀ a, a < 12 → G a = 0) {md : Int32} {post : (Int32 × (Nat → Int64)) → Prop} (hp : ∀ G' : Nat → Int64, (∀ a, a < 12 → G' a = if a < na then sL (fun c => St (288 + 12 * c + a)) n else 0) → post (1, G')) : wp_R_finish md (nI n) (nI na) St G post := by
  unfold wp_R_finish
  refine ⟨fun i G' => ∃ c : Nat, c ≤ n ∧ i = nI c ∧ ∀ a, a < 12 → G' a = if a < na then sL (fun c => St (288 + 12 * c + a)) c else 0, fun i _ => n - i.toNatClampNeg, ⟨0, by omega, rfl, fun a ha => by rw [hG a ha]; simp [sL]⟩, ?_⟩
  rintro i G' ⟨c, hc, rfl, h⟩
  refine ⟨fun hx => ?_, fun hx => ?_⟩
  · have hce := q_ex (by omega) hc hx
    rw [hce] at h
    exact hp _ h
  · have hc' := q_in (by omega) hc hx
    refine ⟨fun j G' => ∃ b : Nat, b ≤ na ∧ j = nI b ∧ ∀ a, a < 12 → G' a = if a < na then sL (fun c => St (288 + 12 * c + a)) (mk2 c b a) else 0, fun j _ => na - j.toNatClampNeg, ⟨0, by omega, rfl, fun a ha => ?_⟩, ?_⟩
    · rw [h a ha]
      unfold mk2
      rw [if_neg (Nat.not_lt_zero a)]
    clear h
    rintro j G' ⟨b, hb, rfl, h⟩
    refine ⟨fun hx => ?_, fun hx => ?_⟩
    · have hbe := q_ex (by omega) hb hx
      rw [nI_1]
      refine ⟨⟨c + 1, by omega, rfl, fun a ha => ?_⟩, q_mu hc' (by omega)⟩
      rw [h a ha]
      by_cases z : a < na
      · rw [if_pos z, if_pos z]
        unfold mk2
        rw [if_pos (by omega)]
      · rw [if_neg z, if_neg z]
    · have hb' := q_in (by omega) hb hx
      have e1 : (((2 * 12) + nI c) * 12) + nI b = nI (288 + 12 * c + b) := by
        have e0 : (2 : Int32) * 12 + nI c = nI (2 * 12 + c) := ix12 2 c
        rw [e0, ix12]
        congr 1
        omega
      unfold wp_R_stepAmount wp_R_stepPlace
      rw [e1]
      dsimp only
      rw [nI_clamp (n := 288 + 12 * c + b) (by omega), nI_clamp (n := b) (by omega), nI_1]
      refine ⟨vp_in_nI (by omega) (by decide), vp_in_nI (by omega) (by decide), vp_in_nI (by omega) (by decide), ⟨b + 1, by omega, rfl, fun a ha => ?_⟩, (by have h9 := q_mu hb' (show na < 2 ^ 31 by omega); rw [nI_clamp (n := b) (by omega)] at h9; exact h9)⟩
      by_cases z : a = b
      · rw [z, pk_uLs, h b (by omega), if_pos hb', if_pos hb']
        unfold mk2
        rw [if_neg (Nat.lt_irrefl b), if_pos (show b < b + 1 by omega)]
        rfl
      · rw [pk_uLn z, h a ha]
        by_cases w : a < na
        · rw [if_pos w, if_pos w]
          unfold mk2
          by_cases y : a < b
          · rw [if_pos y, if_pos (show a < b + 1 by omega)]
          · rw [if_neg y, if_neg (show ¬ a < b + 1 by omega)]
        · rw [if_neg w, if_neg w]
