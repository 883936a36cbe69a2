/-! pure: a book translated, on both sides -/
def tT (n na : Nat) (mcur mso mcl mav : Nat → Int32) (M T : Nat → Int64) (c : Nat) : Int64 := sL (fun p => sL (fun a => trV mcur mso mcl mav M T c p a) na) (n + 1)
def tRow (n na r : Nat) (mcur mso mcl mav : Nat → Int32) (M T : Nat → Int64) (c p a : Nat) : Int64 := if a < na then (if a = r ∧ p = 0 then -(tT n na mcur mso mcl mav M T c) else trV mcur mso mcl mav M T c p a) else 0
theorem tT_eq {n na r : Nat} {xcur mcur xso mso xcl xav mcl mav : Nat → Int32} {X M T : Nat → Int64} (K : kOK n na r xcur mcur xso mso xcl xav mcl mav X M T) {c : Nat} (hc : c < 12) : tT n na mcur mso mcl mav M T c = sL (fun a => sL (fun p => trV mcur mso mcl mav M T c p a) 13) na := by
  have hn := K.2.1
  have hna := K.2.2.1
  unfold tT
  rw [sL_swap]
  exact sL_congr fun a ha => (sL_more (by omega) fun p h1 h2 => trV_far K hc h2 (by omega) (by omega)).symm
set_option maxHeartbeats 2000000 in
theorem sp_translateBook {n na r : Nat} {xcur mcur xso mso xcl xav mcl mav : Nat → Int32} {X M T : Nat → Int64} (K : kOK n na r xcur mcur xso mso xcl xav mcl mav X M T) {c : Nat} (hc : c < n) {R : Nat → Int64} (hR : ∀ p a, p < 13 → a < 12 → R ((c * 13 + p) * 12 + a) = 0) {post : (Nat → Int64) → Prop}
    (hp : ∀ R' : Nat → Int64, (∀ p a, p < 13 → a < 12 → R' ((c * 13 + p) * 12 + a) = tRow n na r mcur mso mcl mav M T c p a) → (∀ c' p a, c' ≠ c → p < 13 → a < 12 → R' ((c' * 13 + p) * 12 + a) = R ((c' * 13 + p) * 12 + a)) → post R') : wp_D_translateBook (nI c) (nI n) (nI na) (nI r) xcur xso xcl xav X T R post := by
  have hn := K.2.1
  have hna := K.2.2.1
  have hr := K.2.2.2.1
  unfold wp_D_translateBook
  refine ⟨fun t i R' => ∃ j : Nat, j ≤ n + 1 ∧ t = sL (fun p => sL (fun a => trV mcur mso mcl mav M T c p a) na) j ∧ i + 1 = nI j ∧ (∀ p a, p < 13 → a < 12 → R' ((c * 13 + p) * 12 + a) = if p < j ∧ a < na then trV mcur mso mcl mav M T c p a else 0) ∧ (∀ c' p a, c' ≠ c → p < 13 → a < 12 → R' ((c' * 13 + p) * 12 + a) = R ((c' * 13 + p) * 12 + a)), fun _ i _ => n + 1 - (i + 1).toNatClampNeg, ⟨0, by omega, rfl, m1_0, fun p a hp ha => by rw [hR p a hp ha, if_neg (by omega)], fun _ _ _ _ _ _ => rfl⟩, ?_⟩
  rintro t i R' ⟨j, hj, rfl, hi, h1, h2⟩
  refine ⟨fun hx => ?_, fun hx => ?_⟩
  · have : j = n + 1 := by have := (pm_le hi (by omega) (by omega)).mp hx; omega
    subst this
    refine sp_add m1_0 (by omega) (by omega) (by omega) ?_
    refine hp _ (fun p a hp' ha => ?_) (fun c' p a h3 h4 h5 => ?_)
    · unfold tRow
      by_cases e : p = 0 ∧ a = r
      · obtain ⟨e1, e2⟩ := e
        rw [e1, e2, pk_uLs, h1 0 r (by omega) (by omega), trV_res K, if_pos (show 0 < n + 1 ∧ r < na from ⟨by omega, hr⟩), if_pos hr, if_pos (show r = r ∧ 0 = 0 from ⟨rfl, rfl⟩), Int64.zero_add]
        rfl
      · rw [pk_uLn (fun z => e (by have := (pl_inj hp' ha (by omega) (by omega)).mp z; exact this.2)), h1 p a hp' ha]
        by_cases ha' : a < na
        · rw [if_pos ha', if_neg (show ¬ (a = r ∧ p = 0) from fun z => e ⟨z.2, z.1⟩)]
          by_cases hpn : p < n + 1
          · rw [if_pos (show p < n + 1 ∧ a < na from ⟨hpn, ha'⟩)]
          · rw [if_neg (show ¬ (p < n + 1 ∧ a < na) from fun z => hpn z.1), trV_far K (by omega) hp' ha (by omega)]
        · rw [if_neg ha', if_neg (fun z => ha' z.2)]
    · rw [pk_uLn (fun z => h3 ((pl_inj h4 h5 (by omega) (by omega)).mp z).1), h2 c' p a h3 h4 h5]
  · have hj' : j < n + 1 := by have := _root_.mt (pm_le (n := n) hi (by omega) (by omega)).mpr hx; omega
    refine ⟨fun t a R' => ∃ b : Nat, b ≤ na ∧ t = sL (fun p => sL (fun a => trV mcur mso mcl mav M T c p a) na) j + sL (fun a => trV mcur mso mcl mav M T c j a) b ∧ a = nI b ∧ (∀ p a, p < 13 → a < 12 → R' ((c * 13 + p) * 12 + a) = if (p < j ∧ a < na) ∨ (p = j ∧ a < b) then trV mcur mso mcl mav M T c p a else 0) ∧ (∀ c' p a, c' ≠ c → p < 13 → a < 12 → R' ((c' * 13 + p) * 12 + a) = R ((c' * 13 + p) * 12 + a)), fun _ a _ => na - a.toNatClampNeg, ⟨0, by omega, (Int64.add_zero _).symm, rfl, fun p a hp ha => ?_, h2⟩, ?_⟩
    · rw [h1 p a hp ha]
      by_cases z : p < j ∧ a < na
      · rw [if_pos z, if_pos (Or.inl z)]
      · rw [if_neg z, if_neg (by omega)]
    clear h1 h2
    rintro t a R' ⟨b, hb, rfl, rfl, h1, h2⟩
    refine ⟨fun hx => ?_, fun hx => ?_⟩
    · have hbe := q_ex (by omega) hb hx
      refine ⟨⟨j + 1, by omega, by rw [hbe]; rfl, by rw [hi, nI_1], fun p a hp ha => ?_, h2⟩, pm_mu hi hj' (by omega)⟩
      rw [h1 p a hp ha]
      by_cases z : p < j + 1 ∧ a < na
      · rw [if_pos z, if_pos (by omega)]
      · rw [if_neg z, if_neg (by omega)]
    · have hb' := q_in (by omega) hb hx
      refine sp_tsum K hi hc (by omega) hb' (sp_add hi (by omega) (by omega) (by omega) (fun x hx => ?_))
      rw [nI_1]
      refine ⟨⟨b + 1, by omega, by rw [hx, Int64.add_assoc]; rfl, rfl, fun p a hp ha => ?_, fun c' p a h3 h4 h5 => ?_⟩, q_mu hb' (by omega)⟩
      · by_cases e : p = j ∧ a = b
        · obtain ⟨e1, e2⟩ := e
          rw [e1, e2, pk_uLs, h1 j b (by omega) (by omega), if_neg (by omega), if_pos (by omega), Int64.zero_add]
        · rw [pk_uLn (fun z => e (by have := (pl_inj hp ha (by omega) (by omega)).mp z; exact this.2)), h1 p a hp ha]
          by_cases z : (p < j ∧ a < na) ∨ (p = j ∧ a < b)
          · rw [if_pos z, if_pos (by omega)]
          · rw [if_neg z, if_neg (by omega)]
      · rw [pk_uLn (fun z => h3 ((pl_inj h4 h5 (by omega) (by omega)).mp z).1), h2 c' p a h3 h4 h5]
set_option maxHeartbeats 4000000 in
theorem sp_mTranslate {n na r : Nat} {xcur mcur xso mso xcl xav mcl mav : Nat → Int32} {X M T : Nat → Int64} (K : kOK n na r xcur mcur xso mso xcl xav mcl mav X M T) {c : Nat} (hc : c < n) {R : Nat → Int64} (hR : ∀ p a, p < 13 → a < 12 → R (156 * c + 13 * a + p) = 0) {post : (Nat → Int64) → Prop}
    (hp : ∀ R' : Nat → Int64, (∀ p a, p < 13 → a < 12 → R' (156 * c + 13 * a + p) = tRow n na r mcur mso mcl mav M T c p a) → (∀ c' p a, c' ≠ c → p < 13 → a < 12 → R' (156 * c' + 13 * a + p) = R (156 * c' + 13 * a + p)) → post R') : wp_M_translate (nI c) (nI r) (nI na) mcur mso mcl mav M T R post := by
  have hn := K.2.1
  have hna := K.2.2.1
  have hr := K.2.2.2.1
  have hT := tT_eq K (c := c) (by omega)
  have hres := fun p => trV_res K (c := c) (p := p)
  obtain ⟨k1, k2, k3, k4, k5, k6, k7, k8, k9, k10, k11⟩ := K
  obtain ⟨q1, q2⟩ := k6 c hc
  obtain ⟨r1, r2, r3, r4, r5, r6⟩ := k10 _ q1
  have clc : (nI c).toNatClampNeg = c := nI_clamp (by omega)
  have clq : (nI (rN mcur c)).toNatClampNeg = rN mcur c := nI_clamp (by omega)
  have hinq : vp_in (nI (rN mcur c)) 4 := vp_in_nI q1 (by decide)
  unfold wp_M_translate
  refine ⟨vp_in_nI (by omega) (by decide), fun x6 hx6 => ?_⟩
  rw [clc, q2] at hx6
  subst hx6
  refine ⟨fun t i R' => ∃ b : Nat, b ≤ na ∧ t = sL (fun a => sL (fun p => trV mcur mso mcl mav M T c p a) 13) b ∧ i = nI b ∧ (∀ p a, p < 13 → a < 12 → R' (156 * c + 13 * a + p) = if a < b then trV mcur mso mcl mav M T c p a else 0) ∧ (∀ c' p a, c' ≠ c → p < 13 → a < 12 → R' (156 * c' + 13 * a + p) = R (156 * c' + 13 * a + p)), fun _ i _ => na - i.toNatClampNeg, ⟨0, by omega, rfl, rfl, fun p a hp ha => by rw [hR p a hp ha, if_neg (by omega)], fun _ _ _ _ _ _ => rfl⟩, ?_⟩
  rintro t i R' ⟨b, hb, rfl, rfl, h1, h2⟩
  refine ⟨fun hx => ?_, fun hx => ?_⟩
  · have hbe := q_ex (by omega) hb hx
    unfold wp_M_cell
    rw [cM m1_0]
    dsimp only
    rw [nI_clamp (by omega)]
    refine ⟨vp_in_nI (by omega) (by decide), hp _ (fun p a hp' ha => ?_) (fun c' p a h3 h4 h5 => ?_)⟩
    · unfold tRow
      by_cases e : p = 0 ∧ a = r
      · obtain ⟨e1, e2⟩ := e
        rw [e1, e2, pk_uLs, if_pos hr, if_pos ⟨rfl, rfl⟩, hT, hbe]
      · rw [pk_uLn (fun z => e (by have := (cm_inj hp' ha (by omega) (by omega)).mp z; exact this.2)), h1 p a hp' ha]
        by_cases ha' : a < na
        · rw [if_pos ha', if_pos (by omega), if_neg (fun z => e ⟨z.2, z.1⟩)]
        · rw [if_neg ha', if_neg (by omega)]
    · rw [pk_uLn (fun z => h3 ((cm_inj h4 h5 (by omega) (by omega)).mp z).1), h2 c' p a h3 h4 h5]
  · have hb' := q_in (by omega) hb hx
    have clb : (nI b).toNatClampNeg = b := nI_clamp (by omega)
    have hinb : vp_in (nI b) 12 := vp_in_nI (by omega) (by decide)
    refine ⟨fun hne => ?_, fun he => ?_⟩
    · have hne : b ≠ r := fun z => hne (by rw [z])
      have h4 : ¬ mso b = 4 := fun z => hne ((k9 b hb').mp z)
      -- behind the inner loop, whichever way the row was set
      have fin : ∀ L3 : Nat → Int64, (∀ p a, p < 13 → a < 12 → L3 (156 * c + 13 * a + p) = if a < b + 1 then trV mcur mso mcl mav M T c p a else 0) → (∀ c' p a, c' ≠ c → p < 13 → a < 12 → L3 (156 * c' + 13 * a + p) = R (156 * c' + 13 * a + p)) → wp_M_total (nI c) (nI b) L3 (fun (r177 : Int64) (u177 : Unit) => ∀ x181 : Int64, x181 = sL (fun a => sL (fun p => trV mcur mso mcl mav M T c p a) 13) b + r177 → (∃ b' : Nat, b' ≤ na ∧ x181 = sL (fun a => sL (fun p => trV mcur mso mcl mav M T c p a) 13) b' ∧ nI b + 1 = nI b' ∧ (∀ p a, p < 13 → a < 12 → L3 (156 * c + 13 * a + p) = if a < b' then trV mcur mso mcl mav M T c p a else 0) ∧ (∀ c' p a, c' ≠ c → p < 13 → a < 12 → L3 (156 * c' + 13 * a + p) = R (156 * c' + 13 * a + p))) ∧ na - (nI b + 1).toNatClampNeg < na - (nI b).toNatClampNeg) := by
        intro L3 g1 g2
        refine sp_total (f := fun p => trV mcur mso mcl mav M T c p b) (by omega) (by omega) (fun p hp => by rw [g1 p b hp (by omega), if_pos (by omega)]) (fun x hx => ?_)
        rw [nI_1]
        exact ⟨⟨b + 1, by omega, hx, rfl, g1, g2⟩, q_mu hb' (by omega)⟩
      refine ⟨fun i L2 => ∃ j : Nat, j ≤ 13 ∧ i + 1 = nI j ∧ (∀ p a, p < 13 → a < 12 → L2 (156 * c + 13 * a + p) = if a < b then trV mcur mso mcl mav M T c p a else if a = b ∧ p < j then (if mso b = 3 then 0 else trV mcur mso mcl mav M T c p b) else 0) ∧ (∀ c' p a, c' ≠ c → p < 13 → a < 12 → L2 (156 * c' + 13 * a + p) = R (156 * c' + 13 * a + p)), fun i _ => 13 - (i + 1).toNatClampNeg, ⟨0, by omega, m1_0, fun p a hp ha => by rw [h1 p a hp ha, if_neg (show ¬ (a = b ∧ p < 0) by omega)], h2⟩, ?_⟩
      rintro i L2 ⟨j, hj, hi, g1, g2⟩
      refine ⟨fun hx => ?_, fun hx => ?_⟩
      · have : j = 13 := by have := (pm_le (n := 12) hi (by omega) (by omega)).mp hx; omega
        subst this
        rw [clb]
        refine ⟨hinb, fun e3 => ?_, fun e3 => ?_⟩
        · refine fin L2 (fun p a hp ha => ?_) g2
          rw [g1 p a hp ha]
          by_cases e : a = b
          · rw [if_neg (by omega), if_pos ⟨e, hp⟩, if_neg e3, if_pos (by omega), e]
          · by_cases z : a < b
            · rw [if_pos z, if_pos (by omega)]
            · rw [if_neg z, if_neg (fun w => e w.1), if_neg (by omega)]
        · have row : ∀ v : Int64, v = trV mcur mso mcl mav M T c 0 b → (∀ p a, p < 13 → a < 12 → vp_updL L2 (156 * c + 13 * b + 0) v (156 * c + 13 * a + p) = if a < b + 1 then trV mcur mso mcl mav M T c p a else 0) ∧ (∀ c' p a, c' ≠ c → p < 13 → a < 12 → vp_updL L2 (156 * c + 13 * b + 0) v (156 * c' + 13 * a + p) = R (156 * c' + 13 * a + p)) := by
            intro v hv
            refine ⟨fun p a hp ha => ?_, fun c' p a h3 h4 h5 => ?_⟩
            · by_cases e : p = 0 ∧ a = b
              · obtain ⟨e1, e2⟩ := e
                rw [e1, e2, pk_uLs, if_pos (by omega)]; exact hv
              · rw [pk_uLn (fun z => e (by have := (cm_inj hp ha (by omega) (by omega)).mp z; exact this.2)), g1 p a hp ha]
                by_cases e' : a = b
                · rw [if_neg (by omega), if_pos ⟨e', hp⟩, if_pos e3, if_pos (by omega), e']
                  unfold trV
                  rw [if_neg (by rw [e3]; decide), if_neg (by rw [e3]; decide), if_pos e3, if_neg (fun z => e ⟨z, e'⟩)]
                · by_cases z : a < b
                  · rw [if_pos z, if_pos (by omega)]
                  · rw [if_neg z, if_neg (fun w => e' w.1), if_neg (by omega)]
            · rw [pk_uLn (fun z => h3 ((cm_inj h4 h5 (by omega) (by omega)).mp z).1), g2 c' p a h3 h4 h5]
          unfold wp_M_cell
          rw [cM m1_0]
          dsimp only
          rw [nI_clamp (n := 156 * c + 13 * b + 0) (by omega)]
          have hin0 : vp_in (nI (156 * c + 13 * b + 0)) 1872 := vp_in_nI (by omega) (by decide)
          refine ⟨fun w => ?_, fun w => ?_⟩
          · have w : ¬ rN mcur c = 0 := fun z => w (by rw [z]; rfl)
            rw [ix12c, nI_clamp (n := c * 12 + b) (by omega)]
            obtain ⟨f1, f2⟩ := row (T (c * 12 + b)) (by unfold trV; rw [if_neg (by rw [e3]; decide), if_neg (by rw [e3]; decide), if_pos e3, if_pos rfl, if_neg w])
            exact ⟨vp_in_nI (by omega) (by decide), hin0, fin _ f1 f2⟩
          · have w := (nI_eq (a := rN mcur c) (b := 0) (by omega) (by omega)).mp w
            obtain ⟨f1, f2⟩ := row (M (156 * c + 13 * b + 0)) (by unfold trV; rw [if_neg (by rw [e3]; decide), if_neg (by rw [e3]; decide), if_pos e3, if_pos rfl, if_pos w])
            exact ⟨hin0, hin0, fin _ f1 f2⟩
      · have hj' : j < 13 := by have := _root_.mt (pm_le (n := 12) hi (by omega) (by omega)).mpr hx; omega
        obtain ⟨s1, s2, s3, s4⟩ := k11 c j b (by omega) hj' (by omega)
        have hinj : vp_in (nI (156 * c + 13 * b + j)) 1872 := vp_in_nI (by omega) (by decide)
        have fin2 : ∀ v : Int64, v = (if mso b = 3 then 0 else trV mcur mso mcl mav M T c j b) → (∃ j' : Nat, j' ≤ 13 ∧ i + 1 + 1 = nI j' ∧ (∀ p a, p < 13 → a < 12 → vp_updL L2 (156 * c + 13 * b + j) v (156 * c + 13 * a + p) = if a < b then trV mcur mso mcl mav M T c p a else if a = b ∧ p < j' then (if mso b = 3 then 0 else trV mcur mso mcl mav M T c p b) else 0) ∧ (∀ c' p a, c' ≠ c → p < 13 → a < 12 → vp_updL L2 (156 * c + 13 * b + j) v (156 * c' + 13 * a + p) = R (156 * c' + 13 * a + p))) ∧ 13 - (i + 1 + 1).toNatClampNeg < 13 - (i + 1).toNatClampNeg := by
          intro v hv
          refine ⟨⟨j + 1, by omega, by rw [hi, nI_1], fun p a hp ha => ?_, fun c' p a h3 h4 h5 => ?_⟩, pm_mu hi hj' (by omega)⟩
          · by_cases e : p = j ∧ a = b
            · obtain ⟨e1, e2⟩ := e
              rw [e1, e2, pk_uLs, if_neg (by omega), if_pos ⟨rfl, by omega⟩]; exact hv
            · rw [pk_uLn (fun z => e (by have := (cm_inj hp ha (by omega) (by omega)).mp z; exact this.2)), g1 p a hp ha]
              by_cases z : a < b
              · rw [if_pos z, if_pos z]
              · rw [if_neg z, if_neg z]
                by_cases y : a = b ∧ p < j
                · rw [if_pos y, if_pos (show a = b ∧ p < j + 1 by omega)]
                · rw [if_neg y, if_neg (show ¬ (a = b ∧ p < j + 1) by omega)]
          · rw [pk_uLn (fun z => h3 ((cm_inj h4 h5 (by omega) (by omega)).mp z).1), g2 c' p a h3 h4 h5]
        unfold wp_M_cell
        rw [cM hi]
        dsimp only
        rw [clb, clq, nI_clamp (n := 156 * c + 13 * b + j) (by omega), r3, r5]
        refine ⟨hinb, fun e3 => ⟨hinj, hinb, fun e1 => ⟨hinq, sp_mTranslated s2 s3 r6 ⟨hinj, fin2 _ ?_⟩⟩, fun e1 => ⟨hinq, sp_mTranslated s2 s3 r4 ⟨hinj, fin2 _ ?_⟩⟩⟩, fun e3 => ⟨hinj, fin2 _ ?_⟩⟩
        · have e2 : mso b = 2 := by
            rcases k8 b hb' with z | z | z | z
            · exact absurd z e1
            · exact z
            · exact absurd z e3
            · exact absurd z h4
          rw [if_neg e3]
          unfold trV
          rw [if_neg e1, if_pos e2]
        · rw [if_neg e3]
          unfold trV
          rw [if_pos e1]
        · rw [if_pos e3]
    · have he := (nI_eq (a := b) (b := r) (by omega) (by omega)).mp he
      rw [nI_1]
      refine ⟨⟨b + 1, by omega, ?_, rfl, fun p a hp ha => ?_, h2⟩, q_mu hb' (by omega)⟩
      · show _ = _ + sL (fun p => trV mcur mso mcl mav M T c p b) 13
        rw [sL_zero (f := fun p => trV mcur mso mcl mav M T c p b) (fun p _ => by rw [he]; exact hres p), Int64.add_zero]
      · rw [h1 p a hp ha]
        by_cases e : a = b
        · rw [if_neg (by omega), if_pos (by omega), e, he, hres p]
        · by_cases z : a < b
          · rw [if_pos z, if_pos (by omega)]
          · rw [if_neg z, if_neg (by omega)]
